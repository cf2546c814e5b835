theorem dX7_init_0 : decode cX7_init 0 = .ok (.aload_n 0, 1) := by decide +kernel
theorem dX7_init_1 : decode cX7_init 1 = .ok (.invokespecial 3, 3) := by decide +kernel
theorem dX7_init_4 : decode cX7_init 4 = .ok (.aload_n 0, 1) := by decide +kernel
theorem dX7_init_5 : decode cX7_init 5 = .ok (.sipush 300, 3) := by decide +kernel
theorem dX7_init_8 : decode cX7_init 8 = .ok (.newarray .int, 2) := by decide +kernel
theorem dX7_init_10 : decode cX7_init 10 = .ok (.putfield 9, 3) := by decide +kernel
theorem dX7_init_13 : decode cX7_init 13 = .ok (.aload_n 0, 1) := by decide +kernel
theorem dX7_init_14 : decode cX7_init 14 = .ok (.bipush 12, 2) := by decide +kernel
theorem dX7_init_16 : decode cX7_init 16 = .ok (.newarray .int, 2) := by decide +kernel
theorem dX7_init_18 : decode cX7_init 18 = .ok (.putfield 13, 3) := by decide +kernel
theorem dX7_init_21 : decode cX7_init 21 = .ok (.aload_n 0, 1) := by decide +kernel
theorem dX7_init_22 : decode cX7_init 22 = .ok (.bipush 12, 2) := by decide +kernel
theorem dX7_init_24 : decode cX7_init 24 = .ok (.newarray .int, 2) := by decide +kernel
theorem dX7_init_26 : decode cX7_init 26 = .ok (.putfield 16, 3) := by decide +kernel
theorem dX7_init_29 : decode cX7_init 29 = .ok (.aload_n 0, 1) := by decide +kernel
theorem dX7_init_30 : decode cX7_init 30 = .ok (.bipush 96, 2) := by decide +kernel
theorem dX7_init_32 : decode cX7_init 32 = .ok (.newarray .int, 2) := by decide +kernel
theorem dX7_init_34 : decode cX7_init 34 = .ok (.putfield 19, 3) := by decide +kernel
theorem dX7_init_37 : decode cX7_init 37 = .ok (.aload_n 0, 1) := by decide +kernel
theorem dX7_init_38 : decode cX7_init 38 = .ok (.bipush 12, 2) := by decide +kernel
theorem dX7_init_40 : decode cX7_init 40 = .ok (.newarray .int, 2) := by decide +kernel
theorem dX7_init_42 : decode cX7_init 42 = .ok (.putfield 22, 3) := by decide +kernel
theorem dX7_init_45 : decode cX7_init 45 = .ok (.aload_n 0, 1) := by decide +kernel
theorem dX7_init_46 : decode cX7_init 46 = .ok (.sipush 256, 3) := by decide +kernel
theorem dX7_init_49 : decode cX7_init 49 = .ok (.newarray .int, 2) := by decide +kernel
theorem dX7_init_51 : decode cX7_init 51 = .ok (.putfield 25, 3) := by decide +kernel
theorem dX7_init_54 : decode cX7_init 54 = .ok (.aload_n 0, 1) := by decide +kernel
theorem dX7_init_55 : decode cX7_init 55 = .ok (.sipush 256, 3) := by decide +kernel
theorem dX7_init_58 : decode cX7_init 58 = .ok (.newarray .int, 2) := by decide +kernel
theorem dX7_init_60 : decode cX7_init 60 = .ok (.putfield 28, 3) := by decide +kernel
theorem dX7_init_63 : decode cX7_init 63 = .ok (.aload_n 0, 1) := by decide +kernel
theorem dX7_init_64 : decode cX7_init 64 = .ok (.sipush 256, 3) := by decide +kernel
theorem dX7_init_67 : decode cX7_init 67 = .ok (.newarray .int, 2) := by decide +kernel
theorem dX7_init_69 : decode cX7_init 69 = .ok (.putfield 31, 3) := by decide +kernel
theorem dX7_init_72 : decode cX7_init 72 = .ok (.aload_n 0, 1) := by decide +kernel
theorem dX7_init_73 : decode cX7_init 73 = .ok (.sipush 256, 3) := by decide +kernel
theorem dX7_init_76 : decode cX7_init 76 = .ok (.newarray .int, 2) := by decide +kernel
theorem dX7_init_78 : decode cX7_init 78 = .ok (.putfield 34, 3) := by decide +kernel
theorem dX7_init_81 : decode cX7_init 81 = .ok (.aload_n 0, 1) := by decide +kernel
theorem dX7_init_82 : decode cX7_init 82 = .ok (.sipush 256, 3) := by decide +kernel
theorem dX7_init_85 : decode cX7_init 85 = .ok (.newarray .int, 2) := by decide +kernel
theorem dX7_init_87 : decode cX7_init 87 = .ok (.putfield 37, 3) := by decide +kernel
theorem dX7_init_90 : decode cX7_init 90 = .ok (.aload_n 0, 1) := by decide +kernel
theorem dX7_init_91 : decode cX7_init 91 = .ok (.bipush 10, 2) := by decide +kernel
theorem dX7_init_93 : decode cX7_init 93 = .ok (.newarray .int, 2) := by decide +kernel
theorem dX7_init_95 : decode cX7_init 95 = .ok (.putfield 40, 3) := by decide +kernel
theorem dX7_init_98 : decode cX7_init 98 = .ok (.aload_n 0, 1) := by decide +kernel
theorem dX7_init_99 : decode cX7_init 99 = .ok (.bipush 12, 2) := by decide +kernel
theorem dX7_init_101 : decode cX7_init 101 = .ok (.newarray .int, 2) := by decide +kernel
theorem dX7_init_103 : decode cX7_init 103 = .ok (.putfield 43, 3) := by decide +kernel
theorem dX7_init_106 : decode cX7_init 106 = .ok (.aload_n 0, 1) := by decide +kernel
theorem dX7_init_107 : decode cX7_init 107 = .ok (.bipush 8, 2) := by decide +kernel
theorem dX7_init_109 : decode cX7_init 109 = .ok (.newarray .int, 2) := by decide +kernel
theorem dX7_init_111 : decode cX7_init 111 = .ok (.putfield 46, 3) := by decide +kernel
theorem dX7_init_114 : decode cX7_init 114 = .ok (.aload_n 0, 1) := by decide +kernel
theorem dX7_init_115 : decode cX7_init 115 = .ok (.bipush 8, 2) := by decide +kernel
theorem dX7_init_117 : decode cX7_init 117 = .ok (.newarray .int, 2) := by decide +kernel
theorem dX7_init_119 : decode cX7_init 119 = .ok (.putfield 49, 3) := by decide +kernel
theorem dX7_init_122 : decode cX7_init 122 = .ok (.aload_n 0, 1) := by decide +kernel
theorem dX7_init_123 : decode cX7_init 123 = .ok (.getfield 13, 3) := by decide +kernel
theorem dX7_init_126 : decode cX7_init 126 = .ok (.iconst 0, 1) := by decide +kernel
theorem dX7_init_127 : decode cX7_init 127 = .ok (.iconst 1, 1) := by decide +kernel
theorem dX7_init_128 : decode cX7_init 128 = .ok (.iastore, 1) := by decide +kernel
theorem dX7_init_129 : decode cX7_init 129 = .ok (.return_, 1) := by decide +kernel
theorem dX7_thrown_0 : decode cX7_thrown 0 = .ok (.aload_n 0, 1) := by decide +kernel
theorem dX7_thrown_1 : decode cX7_thrown 1 = .ok (.getfield 52, 3) := by decide +kernel
theorem dX7_thrown_4 : decode cX7_thrown 4 = .ok (.ireturn, 1) := by decide +kernel
theorem dX7_in_0 : decode cX7_in 0 = .ok (.iload_n 0, 1) := by decide +kernel
theorem dX7_in_1 : decode cX7_in 1 = .ok (.iload_n 1, 1) := by decide +kernel
theorem dX7_in_2 : decode cX7_in 2 = .ok (.if_icmp .lt 12, 3) := by decide +kernel
theorem dX7_in_5 : decode cX7_in 5 = .ok (.iload_n 0, 1) := by decide +kernel
theorem dX7_in_6 : decode cX7_in 6 = .ok (.iload_n 2, 1) := by decide +kernel
theorem dX7_in_7 : decode cX7_in 7 = .ok (.if_icmp .gt 7, 3) := by decide +kernel
theorem dX7_in_10 : decode cX7_in 10 = .ok (.iconst 1, 1) := by decide +kernel
theorem dX7_in_11 : decode cX7_in 11 = .ok (.goto 4, 3) := by decide +kernel
theorem dX7_in_14 : decode cX7_in 14 = .ok (.iconst 0, 1) := by decide +kernel
theorem dX7_in_15 : decode cX7_in 15 = .ok (.ireturn, 1) := by decide +kernel
theorem dX7_has_0 : decode cX7_has 0 = .ok (.iload_n 0, 1) := by decide +kernel
theorem dX7_has_1 : decode cX7_has 1 = .ok (.iload_n 1, 1) := by decide +kernel
theorem dX7_has_2 : decode cX7_has 2 = .ok (.ishr, 1) := by decide +kernel
theorem dX7_has_3 : decode cX7_has 3 = .ok (.iconst 1, 1) := by decide +kernel
theorem dX7_has_4 : decode cX7_has 4 = .ok (.iand, 1) := by decide +kernel
theorem dX7_has_5 : decode cX7_has 5 = .ok (.iconst 1, 1) := by decide +kernel
theorem dX7_has_6 : decode cX7_has 6 = .ok (.if_icmp .ne 7, 3) := by decide +kernel
theorem dX7_has_9 : decode cX7_has 9 = .ok (.iconst 1, 1) := by decide +kernel
theorem dX7_has_10 : decode cX7_has 10 = .ok (.goto 4, 3) := by decide +kernel
theorem dX7_has_13 : decode cX7_has 13 = .ok (.iconst 0, 1) := by decide +kernel
theorem dX7_has_14 : decode cX7_has 14 = .ok (.ireturn, 1) := by decide +kernel
theorem dX7_holds_0 : decode cX7_holds 0 = .ok (.iload_n 1, 1) := by decide +kernel
theorem dX7_holds_1 : decode cX7_holds 1 = .ok (.iload_n 0, 1) := by decide +kernel
theorem dX7_holds_2 : decode cX7_holds 2 = .ok (.iconst (-1), 1) := by decide +kernel
theorem dX7_holds_3 : decode cX7_holds 3 = .ok (.ixor, 1) := by decide +kernel
theorem dX7_holds_4 : decode cX7_holds 4 = .ok (.iand, 1) := by decide +kernel
theorem dX7_holds_5 : decode cX7_holds 5 = .ok (.ifCond .ne 7, 3) := by decide +kernel
theorem dX7_holds_8 : decode cX7_holds 8 = .ok (.iconst 1, 1) := by decide +kernel
theorem dX7_holds_9 : decode cX7_holds 9 = .ok (.goto 4, 3) := by decide +kernel
theorem dX7_holds_12 : decode cX7_holds 12 = .ok (.iconst 0, 1) := by decide +kernel
theorem dX7_holds_13 : decode cX7_holds 13 = .ok (.ireturn, 1) := by decide +kernel
theorem dX7_bits_0 : decode cX7_bits 0 = .ok (.iconst 0, 1) := by decide +kernel
theorem dX7_bits_1 : decode cX7_bits 1 = .ok (.istore_n 1, 1) := by decide +kernel
theorem dX7_bits_2 : decode cX7_bits 2 = .ok (.iconst 0, 1) := by decide +kernel
theorem dX7_bits_3 : decode cX7_bits 3 = .ok (.istore_n 2, 1) := by decide +kernel
theorem dX7_bits_4 : decode cX7_bits 4 = .ok (.iload_n 2, 1) := by decide +kernel
theorem dX7_bits_5 : decode cX7_bits 5 = .ok (.bipush 16, 2) := by decide +kernel
theorem dX7_bits_7 : decode cX7_bits 7 = .ok (.if_icmp .ge 17, 3) := by decide +kernel
theorem dX7_bits_10 : decode cX7_bits 10 = .ok (.iload_n 1, 1) := by decide +kernel
theorem dX7_bits_11 : decode cX7_bits 11 = .ok (.iload_n 0, 1) := by decide +kernel
theorem dX7_bits_12 : decode cX7_bits 12 = .ok (.iload_n 2, 1) := by decide +kernel
theorem dX7_bits_13 : decode cX7_bits 13 = .ok (.ishr, 1) := by decide +kernel
theorem dX7_bits_14 : decode cX7_bits 14 = .ok (.iconst 1, 1) := by decide +kernel
theorem dX7_bits_15 : decode cX7_bits 15 = .ok (.iand, 1) := by decide +kernel
theorem dX7_bits_16 : decode cX7_bits 16 = .ok (.iadd, 1) := by decide +kernel
theorem dX7_bits_17 : decode cX7_bits 17 = .ok (.istore_n 1, 1) := by decide +kernel
theorem dX7_bits_18 : decode cX7_bits 18 = .ok (.iinc 2 1, 3) := by decide +kernel
theorem dX7_bits_21 : decode cX7_bits 21 = .ok (.goto (-17), 3) := by decide +kernel
theorem dX7_bits_24 : decode cX7_bits 24 = .ok (.iload_n 1, 1) := by decide +kernel
theorem dX7_bits_25 : decode cX7_bits 25 = .ok (.ireturn, 1) := by decide +kernel
theorem dX7_fails_0 : decode cX7_fails 0 = .ok (.iload_n 1, 1) := by decide +kernel
theorem dX7_fails_1 : decode cX7_fails 1 = .ok (.ifCond .ne 8, 3) := by decide +kernel
theorem dX7_fails_4 : decode cX7_fails 4 = .ok (.aload_n 0, 1) := by decide +kernel
theorem dX7_fails_5 : decode cX7_fails 5 = .ok (.iload_n 2, 1) := by decide +kernel
theorem dX7_fails_6 : decode cX7_fails 6 = .ok (.putfield 52, 3) := by decide +kernel
theorem dX7_fails_9 : decode cX7_fails 9 = .ok (.iload_n 1, 1) := by decide +kernel
theorem dX7_fails_10 : decode cX7_fails 10 = .ok (.ifCond .ne 7, 3) := by decide +kernel
theorem dX7_fails_13 : decode cX7_fails 13 = .ok (.iconst 1, 1) := by decide +kernel
theorem dX7_fails_14 : decode cX7_fails 14 = .ok (.goto 4, 3) := by decide +kernel
theorem dX7_fails_17 : decode cX7_fails 17 = .ok (.iconst 0, 1) := by decide +kernel
theorem dX7_fails_18 : decode cX7_fails 18 = .ok (.ireturn, 1) := by decide +kernel
theorem dX7_byteOf_0 : decode cX7_byteOf 0 = .ok (.iload 5, 2) := by decide +kernel
theorem dX7_byteOf_2 : decode cX7_byteOf 2 = .ok (.iconst 4, 1) := by decide +kernel
theorem dX7_byteOf_3 : decode cX7_byteOf 3 = .ok (.if_icmp .ge 7, 3) := by decide +kernel
theorem dX7_byteOf_6 : decode cX7_byteOf 6 = .ok (.iload_n 0, 1) := by decide +kernel
theorem dX7_byteOf_7 : decode cX7_byteOf 7 = .ok (.goto 38, 3) := by decide +kernel
theorem dX7_byteOf_10 : decode cX7_byteOf 10 = .ok (.iload 5, 2) := by decide +kernel
theorem dX7_byteOf_12 : decode cX7_byteOf 12 = .ok (.bipush 8, 2) := by decide +kernel
theorem dX7_byteOf_14 : decode cX7_byteOf 14 = .ok (.if_icmp .ge 7, 3) := by decide +kernel
theorem dX7_byteOf_17 : decode cX7_byteOf 17 = .ok (.iload_n 1, 1) := by decide +kernel
theorem dX7_byteOf_18 : decode cX7_byteOf 18 = .ok (.goto 27, 3) := by decide +kernel
theorem dX7_byteOf_21 : decode cX7_byteOf 21 = .ok (.iload 5, 2) := by decide +kernel
theorem dX7_byteOf_23 : decode cX7_byteOf 23 = .ok (.bipush 12, 2) := by decide +kernel
theorem dX7_byteOf_25 : decode cX7_byteOf 25 = .ok (.if_icmp .ge 7, 3) := by decide +kernel
theorem dX7_byteOf_28 : decode cX7_byteOf 28 = .ok (.iload_n 2, 1) := by decide +kernel
theorem dX7_byteOf_29 : decode cX7_byteOf 29 = .ok (.goto 16, 3) := by decide +kernel
theorem dX7_byteOf_32 : decode cX7_byteOf 32 = .ok (.iload 5, 2) := by decide +kernel
theorem dX7_byteOf_34 : decode cX7_byteOf 34 = .ok (.bipush 16, 2) := by decide +kernel
theorem dX7_byteOf_36 : decode cX7_byteOf 36 = .ok (.if_icmp .ge 7, 3) := by decide +kernel
theorem dX7_byteOf_39 : decode cX7_byteOf 39 = .ok (.iload_n 3, 1) := by decide +kernel
theorem dX7_byteOf_40 : decode cX7_byteOf 40 = .ok (.goto 5, 3) := by decide +kernel
theorem dX7_byteOf_43 : decode cX7_byteOf 43 = .ok (.iload 4, 2) := by decide +kernel
theorem dX7_byteOf_45 : decode cX7_byteOf 45 = .ok (.istore 6, 2) := by decide +kernel
theorem dX7_byteOf_47 : decode cX7_byteOf 47 = .ok (.iload 6, 2) := by decide +kernel
theorem dX7_byteOf_49 : decode cX7_byteOf 49 = .ok (.bipush 24, 2) := by decide +kernel
theorem dX7_byteOf_51 : decode cX7_byteOf 51 = .ok (.bipush 8, 2) := by decide +kernel
theorem dX7_byteOf_53 : decode cX7_byteOf 53 = .ok (.iload 5, 2) := by decide +kernel
theorem dX7_byteOf_55 : decode cX7_byteOf 55 = .ok (.iconst 4, 1) := by decide +kernel
theorem dX7_byteOf_56 : decode cX7_byteOf 56 = .ok (.irem, 1) := by decide +kernel
theorem dX7_byteOf_57 : decode cX7_byteOf 57 = .ok (.imul, 1) := by decide +kernel
theorem dX7_byteOf_58 : decode cX7_byteOf 58 = .ok (.isub, 1) := by decide +kernel
theorem dX7_byteOf_59 : decode cX7_byteOf 59 = .ok (.ishr, 1) := by decide +kernel
theorem dX7_byteOf_60 : decode cX7_byteOf 60 = .ok (.sipush 255, 3) := by decide +kernel
theorem dX7_byteOf_63 : decode cX7_byteOf 63 = .ok (.iand, 1) := by decide +kernel
theorem dX7_byteOf_64 : decode cX7_byteOf 64 = .ok (.ireturn, 1) := by decide +kernel
theorem dX7_append_0 : decode cX7_append 0 = .ok (.aload_n 0, 1) := by decide +kernel
theorem dX7_append_1 : decode cX7_append 1 = .ok (.iconst 0, 1) := by decide +kernel
theorem dX7_append_2 : decode cX7_append 2 = .ok (.putfield 52, 3) := by decide +kernel
theorem dX7_append_5 : decode cX7_append 5 = .ok (.iconst 0, 1) := by decide +kernel
theorem dX7_append_6 : decode cX7_append 6 = .ok (.istore 6, 2) := by decide +kernel
theorem dX7_append_8 : decode cX7_append 8 = .ok (.iconst 0, 1) := by decide +kernel
theorem dX7_append_9 : decode cX7_append 9 = .ok (.istore 7, 2) := by decide +kernel
theorem dX7_append_11 : decode cX7_append 11 = .ok (.iload 7, 2) := by decide +kernel
theorem dX7_append_13 : decode cX7_append 13 = .ok (.bipush 20, 2) := by decide +kernel
theorem dX7_append_15 : decode cX7_append 15 = .ok (.if_icmp .ge 34, 3) := by decide +kernel
theorem dX7_append_18 : decode cX7_append 18 = .ok (.iload 6, 2) := by decide +kernel
theorem dX7_append_20 : decode cX7_append 20 = .ok (.iload_n 1, 1) := by decide +kernel
theorem dX7_append_21 : decode cX7_append 21 = .ok (.iload_n 2, 1) := by decide +kernel
theorem dX7_append_22 : decode cX7_append 22 = .ok (.iload_n 3, 1) := by decide +kernel
theorem dX7_append_23 : decode cX7_append 23 = .ok (.iload 4, 2) := by decide +kernel
theorem dX7_append_25 : decode cX7_append 25 = .ok (.iload 5, 2) := by decide +kernel
theorem dX7_append_27 : decode cX7_append 27 = .ok (.iload 7, 2) := by decide +kernel
theorem dX7_append_29 : decode cX7_append 29 = .ok (.invokestatic 56, 3) := by decide +kernel
theorem dX7_append_32 : decode cX7_append 32 = .ok (.ifCond .eq 7, 3) := by decide +kernel
theorem dX7_append_35 : decode cX7_append 35 = .ok (.iconst 1, 1) := by decide +kernel
theorem dX7_append_36 : decode cX7_append 36 = .ok (.goto 4, 3) := by decide +kernel
theorem dX7_append_39 : decode cX7_append 39 = .ok (.iconst 0, 1) := by decide +kernel
theorem dX7_append_40 : decode cX7_append 40 = .ok (.iadd, 1) := by decide +kernel
theorem dX7_append_41 : decode cX7_append 41 = .ok (.istore 6, 2) := by decide +kernel
theorem dX7_append_43 : decode cX7_append 43 = .ok (.iinc 7 1, 3) := by decide +kernel
theorem dX7_append_46 : decode cX7_append 46 = .ok (.goto (-35), 3) := by decide +kernel
theorem dX7_append_49 : decode cX7_append 49 = .ok (.aload_n 0, 1) := by decide +kernel
theorem dX7_append_50 : decode cX7_append 50 = .ok (.aload_n 0, 1) := by decide +kernel
theorem dX7_append_51 : decode cX7_append 51 = .ok (.getfield 60, 3) := by decide +kernel
theorem dX7_append_54 : decode cX7_append 54 = .ok (.iload 6, 2) := by decide +kernel
theorem dX7_append_56 : decode cX7_append 56 = .ok (.iadd, 1) := by decide +kernel
theorem dX7_append_57 : decode cX7_append 57 = .ok (.sipush 300, 3) := by decide +kernel
theorem dX7_append_60 : decode cX7_append 60 = .ok (.if_icmp .gt 7, 3) := by decide +kernel
theorem dX7_append_63 : decode cX7_append 63 = .ok (.iconst 1, 1) := by decide +kernel
theorem dX7_append_64 : decode cX7_append 64 = .ok (.goto 4, 3) := by decide +kernel
theorem dX7_append_67 : decode cX7_append 67 = .ok (.iconst 0, 1) := by decide +kernel
theorem dX7_append_68 : decode cX7_append 68 = .ok (.iconst 1, 1) := by decide +kernel
theorem dX7_append_69 : decode cX7_append 69 = .ok (.invokevirtual 63, 3) := by decide +kernel
theorem dX7_append_72 : decode cX7_append 72 = .ok (.ifCond .eq 5, 3) := by decide +kernel
theorem dX7_append_75 : decode cX7_append 75 = .ok (.iconst 0, 1) := by decide +kernel
theorem dX7_append_76 : decode cX7_append 76 = .ok (.ireturn, 1) := by decide +kernel
theorem dX7_append_77 : decode cX7_append 77 = .ok (.iconst 0, 1) := by decide +kernel
theorem dX7_append_78 : decode cX7_append 78 = .ok (.istore 7, 2) := by decide +kernel
theorem dX7_append_80 : decode cX7_append 80 = .ok (.iload 7, 2) := by decide +kernel
theorem dX7_append_82 : decode cX7_append 82 = .ok (.bipush 20, 2) := by decide +kernel
theorem dX7_append_84 : decode cX7_append 84 = .ok (.if_icmp .ge 49, 3) := by decide +kernel
theorem dX7_append_87 : decode cX7_append 87 = .ok (.iload_n 1, 1) := by decide +kernel
theorem dX7_append_88 : decode cX7_append 88 = .ok (.iload_n 2, 1) := by decide +kernel
theorem dX7_append_89 : decode cX7_append 89 = .ok (.iload_n 3, 1) := by decide +kernel
theorem dX7_append_90 : decode cX7_append 90 = .ok (.iload 4, 2) := by decide +kernel
theorem dX7_append_92 : decode cX7_append 92 = .ok (.iload 5, 2) := by decide +kernel
theorem dX7_append_94 : decode cX7_append 94 = .ok (.iload 7, 2) := by decide +kernel
theorem dX7_append_96 : decode cX7_append 96 = .ok (.invokestatic 56, 3) := by decide +kernel
theorem dX7_append_99 : decode cX7_append 99 = .ok (.istore 8, 2) := by decide +kernel
theorem dX7_append_101 : decode cX7_append 101 = .ok (.iload 8, 2) := by decide +kernel
theorem dX7_append_103 : decode cX7_append 103 = .ok (.ifCond .eq 24, 3) := by decide +kernel
theorem dX7_append_106 : decode cX7_append 106 = .ok (.aload_n 0, 1) := by decide +kernel
theorem dX7_append_107 : decode cX7_append 107 = .ok (.getfield 9, 3) := by decide +kernel
theorem dX7_append_110 : decode cX7_append 110 = .ok (.aload_n 0, 1) := by decide +kernel
theorem dX7_append_111 : decode cX7_append 111 = .ok (.getfield 60, 3) := by decide +kernel
theorem dX7_append_114 : decode cX7_append 114 = .ok (.iload 8, 2) := by decide +kernel
theorem dX7_append_116 : decode cX7_append 116 = .ok (.iastore, 1) := by decide +kernel
theorem dX7_append_117 : decode cX7_append 117 = .ok (.aload_n 0, 1) := by decide +kernel
theorem dX7_append_118 : decode cX7_append 118 = .ok (.dup, 1) := by decide +kernel
theorem dX7_append_119 : decode cX7_append 119 = .ok (.getfield 60, 3) := by decide +kernel
theorem dX7_append_122 : decode cX7_append 122 = .ok (.iconst 1, 1) := by decide +kernel
theorem dX7_append_123 : decode cX7_append 123 = .ok (.iadd, 1) := by decide +kernel
theorem dX7_append_124 : decode cX7_append 124 = .ok (.putfield 60, 3) := by decide +kernel
theorem dX7_append_127 : decode cX7_append 127 = .ok (.iinc 7 1, 3) := by decide +kernel
theorem dX7_append_130 : decode cX7_append 130 = .ok (.goto (-50), 3) := by decide +kernel
theorem dX7_append_133 : decode cX7_append 133 = .ok (.aload_n 0, 1) := by decide +kernel
theorem dX7_append_134 : decode cX7_append 134 = .ok (.getfield 60, 3) := by decide +kernel
theorem dX7_append_137 : decode cX7_append 137 = .ok (.ireturn, 1) := by decide +kernel
theorem dX7_truncate_0 : decode cX7_truncate 0 = .ok (.aload_n 0, 1) := by decide +kernel
theorem dX7_truncate_1 : decode cX7_truncate 1 = .ok (.iconst 0, 1) := by decide +kernel
theorem dX7_truncate_2 : decode cX7_truncate 2 = .ok (.putfield 52, 3) := by decide +kernel
theorem dX7_truncate_5 : decode cX7_truncate 5 = .ok (.aload_n 0, 1) := by decide +kernel
theorem dX7_truncate_6 : decode cX7_truncate 6 = .ok (.iload_n 1, 1) := by decide +kernel
theorem dX7_truncate_7 : decode cX7_truncate 7 = .ok (.iconst 0, 1) := by decide +kernel
theorem dX7_truncate_8 : decode cX7_truncate 8 = .ok (.aload_n 0, 1) := by decide +kernel
theorem dX7_truncate_9 : decode cX7_truncate 9 = .ok (.getfield 60, 3) := by decide +kernel
theorem dX7_truncate_12 : decode cX7_truncate 12 = .ok (.invokestatic 67, 3) := by decide +kernel
theorem dX7_truncate_15 : decode cX7_truncate 15 = .ok (.iconst 1, 1) := by decide +kernel
theorem dX7_truncate_16 : decode cX7_truncate 16 = .ok (.invokevirtual 63, 3) := by decide +kernel
theorem dX7_truncate_19 : decode cX7_truncate 19 = .ok (.ifCond .eq 5, 3) := by decide +kernel
theorem dX7_truncate_22 : decode cX7_truncate 22 = .ok (.iconst 0, 1) := by decide +kernel
theorem dX7_truncate_23 : decode cX7_truncate 23 = .ok (.ireturn, 1) := by decide +kernel
theorem dX7_truncate_24 : decode cX7_truncate 24 = .ok (.aload_n 0, 1) := by decide +kernel
theorem dX7_truncate_25 : decode cX7_truncate 25 = .ok (.iload_n 1, 1) := by decide +kernel
theorem dX7_truncate_26 : decode cX7_truncate 26 = .ok (.putfield 60, 3) := by decide +kernel
theorem dX7_truncate_29 : decode cX7_truncate 29 = .ok (.iload_n 1, 1) := by decide +kernel
theorem dX7_truncate_30 : decode cX7_truncate 30 = .ok (.ireturn, 1) := by decide +kernel
theorem dX7_peek_0 : decode cX7_peek 0 = .ok (.iload_n 1, 1) := by decide +kernel
theorem dX7_peek_1 : decode cX7_peek 1 = .ok (.aload_n 0, 1) := by decide +kernel
theorem dX7_peek_2 : decode cX7_peek 2 = .ok (.getfield 60, 3) := by decide +kernel
theorem dX7_peek_5 : decode cX7_peek 5 = .ok (.if_icmp .ge 12, 3) := by decide +kernel
theorem dX7_peek_8 : decode cX7_peek 8 = .ok (.aload_n 0, 1) := by decide +kernel
theorem dX7_peek_9 : decode cX7_peek 9 = .ok (.getfield 9, 3) := by decide +kernel
theorem dX7_peek_12 : decode cX7_peek 12 = .ok (.iload_n 1, 1) := by decide +kernel
theorem dX7_peek_13 : decode cX7_peek 13 = .ok (.iaload, 1) := by decide +kernel
theorem dX7_peek_14 : decode cX7_peek 14 = .ok (.goto 4, 3) := by decide +kernel
theorem dX7_peek_17 : decode cX7_peek 17 = .ok (.iconst (-1), 1) := by decide +kernel
theorem dX7_peek_18 : decode cX7_peek 18 = .ok (.ireturn, 1) := by decide +kernel
theorem dX7_isLetter_0 : decode cX7_isLetter 0 = .ok (.iload_n 0, 1) := by decide +kernel
theorem dX7_isLetter_1 : decode cX7_isLetter 1 = .ok (.bipush 97, 2) := by decide +kernel
theorem dX7_isLetter_3 : decode cX7_isLetter 3 = .ok (.if_icmp .lt 13, 3) := by decide +kernel
theorem dX7_isLetter_6 : decode cX7_isLetter 6 = .ok (.iload_n 0, 1) := by decide +kernel
theorem dX7_isLetter_7 : decode cX7_isLetter 7 = .ok (.bipush 122, 2) := by decide +kernel
theorem dX7_isLetter_9 : decode cX7_isLetter 9 = .ok (.if_icmp .gt 7, 3) := by decide +kernel
theorem dX7_isLetter_12 : decode cX7_isLetter 12 = .ok (.iconst 1, 1) := by decide +kernel
theorem dX7_isLetter_13 : decode cX7_isLetter 13 = .ok (.goto 4, 3) := by decide +kernel
theorem dX7_isLetter_16 : decode cX7_isLetter 16 = .ok (.iconst 0, 1) := by decide +kernel
theorem dX7_isLetter_17 : decode cX7_isLetter 17 = .ok (.ireturn, 1) := by decide +kernel
theorem dX7_isDigit_0 : decode cX7_isDigit 0 = .ok (.iload_n 0, 1) := by decide +kernel
theorem dX7_isDigit_1 : decode cX7_isDigit 1 = .ok (.bipush 48, 2) := by decide +kernel
theorem dX7_isDigit_3 : decode cX7_isDigit 3 = .ok (.if_icmp .lt 13, 3) := by decide +kernel
theorem dX7_isDigit_6 : decode cX7_isDigit 6 = .ok (.iload_n 0, 1) := by decide +kernel
theorem dX7_isDigit_7 : decode cX7_isDigit 7 = .ok (.bipush 57, 2) := by decide +kernel
theorem dX7_isDigit_9 : decode cX7_isDigit 9 = .ok (.if_icmp .gt 7, 3) := by decide +kernel
theorem dX7_isDigit_12 : decode cX7_isDigit 12 = .ok (.iconst 1, 1) := by decide +kernel
theorem dX7_isDigit_13 : decode cX7_isDigit 13 = .ok (.goto 4, 3) := by decide +kernel
theorem dX7_isDigit_16 : decode cX7_isDigit 16 = .ok (.iconst 0, 1) := by decide +kernel
theorem dX7_isDigit_17 : decode cX7_isDigit 17 = .ok (.ireturn, 1) := by decide +kernel
theorem dX7_step_0 : decode cX7_step 0 = .ok (.aload_n 0, 1) := by decide +kernel
theorem dX7_step_1 : decode cX7_step 1 = .ok (.aload_n 0, 1) := by decide +kernel
theorem dX7_step_2 : decode cX7_step 2 = .ok (.getfield 71, 3) := by decide +kernel
theorem dX7_step_5 : decode cX7_step 5 = .ok (.invokevirtual 74, 3) := by decide +kernel
theorem dX7_step_8 : decode cX7_step 8 = .ok (.bipush 32, 2) := by decide +kernel
theorem dX7_step_10 : decode cX7_step 10 = .ok (.if_icmp .ne 16, 3) := by decide +kernel
theorem dX7_step_13 : decode cX7_step 13 = .ok (.aload_n 0, 1) := by decide +kernel
theorem dX7_step_14 : decode cX7_step 14 = .ok (.dup, 1) := by decide +kernel
theorem dX7_step_15 : decode cX7_step 15 = .ok (.getfield 71, 3) := by decide +kernel
theorem dX7_step_18 : decode cX7_step 18 = .ok (.iconst 1, 1) := by decide +kernel
theorem dX7_step_19 : decode cX7_step 19 = .ok (.iadd, 1) := by decide +kernel
theorem dX7_step_20 : decode cX7_step 20 = .ok (.putfield 71, 3) := by decide +kernel
theorem dX7_step_23 : decode cX7_step 23 = .ok (.goto (-23), 3) := by decide +kernel
theorem dX7_step_26 : decode cX7_step 26 = .ok (.aload_n 0, 1) := by decide +kernel
theorem dX7_step_27 : decode cX7_step 27 = .ok (.aload_n 0, 1) := by decide +kernel
theorem dX7_step_28 : decode cX7_step 28 = .ok (.getfield 71, 3) := by decide +kernel
theorem dX7_step_31 : decode cX7_step 31 = .ok (.putfield 78, 3) := by decide +kernel
theorem dX7_step_34 : decode cX7_step 34 = .ok (.aload_n 0, 1) := by decide +kernel
theorem dX7_step_35 : decode cX7_step 35 = .ok (.aload_n 0, 1) := by decide +kernel
theorem dX7_step_36 : decode cX7_step 36 = .ok (.getfield 71, 3) := by decide +kernel
theorem dX7_step_39 : decode cX7_step 39 = .ok (.invokevirtual 74, 3) := by decide +kernel
theorem dX7_step_42 : decode cX7_step 42 = .ok (.istore_n 1, 1) := by decide +kernel
theorem dX7_step_43 : decode cX7_step 43 = .ok (.aload_n 0, 1) := by decide +kernel
theorem dX7_step_44 : decode cX7_step 44 = .ok (.iload_n 1, 1) := by decide +kernel
theorem dX7_step_45 : decode cX7_step 45 = .ok (.ifCond .ge 7, 3) := by decide +kernel
theorem dX7_step_48 : decode cX7_step 48 = .ok (.iconst 0, 1) := by decide +kernel
theorem dX7_step_49 : decode cX7_step 49 = .ok (.goto 26, 3) := by decide +kernel
theorem dX7_step_52 : decode cX7_step 52 = .ok (.iload_n 1, 1) := by decide +kernel
theorem dX7_step_53 : decode cX7_step 53 = .ok (.invokestatic 81, 3) := by decide +kernel
theorem dX7_step_56 : decode cX7_step 56 = .ok (.ifCond .eq 7, 3) := by decide +kernel
theorem dX7_step_59 : decode cX7_step 59 = .ok (.iconst 1, 1) := by decide +kernel
theorem dX7_step_60 : decode cX7_step 60 = .ok (.goto 15, 3) := by decide +kernel
theorem dX7_step_63 : decode cX7_step 63 = .ok (.iload_n 1, 1) := by decide +kernel
theorem dX7_step_64 : decode cX7_step 64 = .ok (.invokestatic 85, 3) := by decide +kernel
theorem dX7_step_67 : decode cX7_step 67 = .ok (.ifCond .eq 7, 3) := by decide +kernel
theorem dX7_step_70 : decode cX7_step 70 = .ok (.iconst 2, 1) := by decide +kernel
theorem dX7_step_71 : decode cX7_step 71 = .ok (.goto 4, 3) := by decide +kernel
theorem dX7_step_74 : decode cX7_step 74 = .ok (.iconst 3, 1) := by decide +kernel
theorem dX7_step_75 : decode cX7_step 75 = .ok (.putfield 88, 3) := by decide +kernel
theorem dX7_step_78 : decode cX7_step 78 = .ok (.aload_n 0, 1) := by decide +kernel
theorem dX7_step_79 : decode cX7_step 79 = .ok (.iconst 0, 1) := by decide +kernel
theorem dX7_step_80 : decode cX7_step 80 = .ok (.putfield 91, 3) := by decide +kernel
theorem dX7_step_83 : decode cX7_step 83 = .ok (.aload_n 0, 1) := by decide +kernel
theorem dX7_step_84 : decode cX7_step 84 = .ok (.getfield 88, 3) := by decide +kernel
theorem dX7_step_87 : decode cX7_step 87 = .ok (.iconst 3, 1) := by decide +kernel
theorem dX7_step_88 : decode cX7_step 88 = .ok (.if_icmp .ne 13, 3) := by decide +kernel
theorem dX7_step_91 : decode cX7_step 91 = .ok (.aload_n 0, 1) := by decide +kernel
theorem dX7_step_92 : decode cX7_step 92 = .ok (.dup, 1) := by decide +kernel
theorem dX7_step_93 : decode cX7_step 93 = .ok (.getfield 71, 3) := by decide +kernel
theorem dX7_step_96 : decode cX7_step 96 = .ok (.iconst 1, 1) := by decide +kernel
theorem dX7_step_97 : decode cX7_step 97 = .ok (.iadd, 1) := by decide +kernel
theorem dX7_step_98 : decode cX7_step 98 = .ok (.putfield 71, 3) := by decide +kernel
theorem dX7_step_101 : decode cX7_step 101 = .ok (.aload_n 0, 1) := by decide +kernel
theorem dX7_step_102 : decode cX7_step 102 = .ok (.getfield 88, 3) := by decide +kernel
theorem dX7_step_105 : decode cX7_step 105 = .ok (.iconst 1, 1) := by decide +kernel
theorem dX7_step_106 : decode cX7_step 106 = .ok (.if_icmp .ne 30, 3) := by decide +kernel
theorem dX7_step_109 : decode cX7_step 109 = .ok (.aload_n 0, 1) := by decide +kernel
theorem dX7_step_110 : decode cX7_step 110 = .ok (.aload_n 0, 1) := by decide +kernel
theorem dX7_step_111 : decode cX7_step 111 = .ok (.getfield 71, 3) := by decide +kernel
theorem dX7_step_114 : decode cX7_step 114 = .ok (.invokevirtual 74, 3) := by decide +kernel
theorem dX7_step_117 : decode cX7_step 117 = .ok (.invokestatic 81, 3) := by decide +kernel
theorem dX7_step_120 : decode cX7_step 120 = .ok (.ifCond .eq 16, 3) := by decide +kernel
theorem dX7_step_123 : decode cX7_step 123 = .ok (.aload_n 0, 1) := by decide +kernel
theorem dX7_step_124 : decode cX7_step 124 = .ok (.dup, 1) := by decide +kernel
theorem dX7_step_125 : decode cX7_step 125 = .ok (.getfield 71, 3) := by decide +kernel
theorem dX7_step_128 : decode cX7_step 128 = .ok (.iconst 1, 1) := by decide +kernel
theorem dX7_step_129 : decode cX7_step 129 = .ok (.iadd, 1) := by decide +kernel
theorem dX7_step_130 : decode cX7_step 130 = .ok (.putfield 71, 3) := by decide +kernel
theorem dX7_step_133 : decode cX7_step 133 = .ok (.goto (-32), 3) := by decide +kernel
theorem dX7_step_136 : decode cX7_step 136 = .ok (.aload_n 0, 1) := by decide +kernel
theorem dX7_step_137 : decode cX7_step 137 = .ok (.getfield 88, 3) := by decide +kernel
theorem dX7_step_140 : decode cX7_step 140 = .ok (.iconst 2, 1) := by decide +kernel
theorem dX7_step_141 : decode cX7_step 141 = .ok (.if_icmp .ne 58, 3) := by decide +kernel
theorem dX7_step_144 : decode cX7_step 144 = .ok (.aload_n 0, 1) := by decide +kernel
theorem dX7_step_145 : decode cX7_step 145 = .ok (.aload_n 0, 1) := by decide +kernel
theorem dX7_step_146 : decode cX7_step 146 = .ok (.getfield 71, 3) := by decide +kernel
theorem dX7_step_149 : decode cX7_step 149 = .ok (.invokevirtual 74, 3) := by decide +kernel
theorem dX7_step_152 : decode cX7_step 152 = .ok (.invokestatic 85, 3) := by decide +kernel
theorem dX7_step_155 : decode cX7_step 155 = .ok (.ifCond .eq 44, 3) := by decide +kernel
theorem dX7_step_158 : decode cX7_step 158 = .ok (.aload_n 0, 1) := by decide +kernel
theorem dX7_step_159 : decode cX7_step 159 = .ok (.ldc 94, 2) := by decide +kernel
theorem dX7_step_161 : decode cX7_step 161 = .ok (.bipush 10, 2) := by decide +kernel
theorem dX7_step_163 : decode cX7_step 163 = .ok (.aload_n 0, 1) := by decide +kernel
theorem dX7_step_164 : decode cX7_step 164 = .ok (.getfield 91, 3) := by decide +kernel
theorem dX7_step_167 : decode cX7_step 167 = .ok (.imul, 1) := by decide +kernel
theorem dX7_step_168 : decode cX7_step 168 = .ok (.aload_n 0, 1) := by decide +kernel
theorem dX7_step_169 : decode cX7_step 169 = .ok (.aload_n 0, 1) := by decide +kernel
theorem dX7_step_170 : decode cX7_step 170 = .ok (.getfield 71, 3) := by decide +kernel
theorem dX7_step_173 : decode cX7_step 173 = .ok (.invokevirtual 74, 3) := by decide +kernel
theorem dX7_step_176 : decode cX7_step 176 = .ok (.iadd, 1) := by decide +kernel
theorem dX7_step_177 : decode cX7_step 177 = .ok (.bipush 48, 2) := by decide +kernel
theorem dX7_step_179 : decode cX7_step 179 = .ok (.isub, 1) := by decide +kernel
theorem dX7_step_180 : decode cX7_step 180 = .ok (.invokestatic 95, 3) := by decide +kernel
theorem dX7_step_183 : decode cX7_step 183 = .ok (.putfield 91, 3) := by decide +kernel
theorem dX7_step_186 : decode cX7_step 186 = .ok (.aload_n 0, 1) := by decide +kernel
theorem dX7_step_187 : decode cX7_step 187 = .ok (.dup, 1) := by decide +kernel
theorem dX7_step_188 : decode cX7_step 188 = .ok (.getfield 71, 3) := by decide +kernel
theorem dX7_step_191 : decode cX7_step 191 = .ok (.iconst 1, 1) := by decide +kernel
theorem dX7_step_192 : decode cX7_step 192 = .ok (.iadd, 1) := by decide +kernel
theorem dX7_step_193 : decode cX7_step 193 = .ok (.putfield 71, 3) := by decide +kernel
theorem dX7_step_196 : decode cX7_step 196 = .ok (.goto (-60), 3) := by decide +kernel
theorem dX7_step_199 : decode cX7_step 199 = .ok (.return_, 1) := by decide +kernel
theorem dX7_fail_0 : decode cX7_fail 0 = .ok (.aload_n 0, 1) := by decide +kernel
theorem dX7_fail_1 : decode cX7_fail 1 = .ok (.aload_n 0, 1) := by decide +kernel
theorem dX7_fail_2 : decode cX7_fail 2 = .ok (.getfield 101, 3) := by decide +kernel
theorem dX7_fail_5 : decode cX7_fail 5 = .ok (.ifCond .ge 10, 3) := by decide +kernel
theorem dX7_fail_8 : decode cX7_fail 8 = .ok (.aload_n 0, 1) := by decide +kernel
theorem dX7_fail_9 : decode cX7_fail 9 = .ok (.getfield 78, 3) := by decide +kernel
theorem dX7_fail_12 : decode cX7_fail 12 = .ok (.goto 7, 3) := by decide +kernel
theorem dX7_fail_15 : decode cX7_fail 15 = .ok (.aload_n 0, 1) := by decide +kernel
theorem dX7_fail_16 : decode cX7_fail 16 = .ok (.getfield 101, 3) := by decide +kernel
theorem dX7_fail_19 : decode cX7_fail 19 = .ok (.putfield 101, 3) := by decide +kernel
theorem dX7_fail_22 : decode cX7_fail 22 = .ok (.return_, 1) := by decide +kernel
theorem dX7_isGood_0 : decode cX7_isGood 0 = .ok (.aload_n 0, 1) := by decide +kernel
theorem dX7_isGood_1 : decode cX7_isGood 1 = .ok (.getfield 101, 3) := by decide +kernel
theorem dX7_isGood_4 : decode cX7_isGood 4 = .ok (.ifCond .ge 7, 3) := by decide +kernel
theorem dX7_isGood_7 : decode cX7_isGood 7 = .ok (.iconst 1, 1) := by decide +kernel
theorem dX7_isGood_8 : decode cX7_isGood 8 = .ok (.goto 4, 3) := by decide +kernel
theorem dX7_isGood_11 : decode cX7_isGood 11 = .ok (.iconst 0, 1) := by decide +kernel
theorem dX7_isGood_12 : decode cX7_isGood 12 = .ok (.ireturn, 1) := by decide +kernel
theorem dX7_isWord_0 : decode cX7_isWord 0 = .ok (.aload_n 0, 1) := by decide +kernel
theorem dX7_isWord_1 : decode cX7_isWord 1 = .ok (.invokevirtual 104, 3) := by decide +kernel
theorem dX7_isWord_4 : decode cX7_isWord 4 = .ok (.ifCond .eq 31, 3) := by decide +kernel
theorem dX7_isWord_7 : decode cX7_isWord 7 = .ok (.aload_n 0, 1) := by decide +kernel
theorem dX7_isWord_8 : decode cX7_isWord 8 = .ok (.getfield 88, 3) := by decide +kernel
theorem dX7_isWord_11 : decode cX7_isWord 11 = .ok (.iconst 1, 1) := by decide +kernel
theorem dX7_isWord_12 : decode cX7_isWord 12 = .ok (.if_icmp .ne 23, 3) := by decide +kernel
theorem dX7_isWord_15 : decode cX7_isWord 15 = .ok (.aload_n 0, 1) := by decide +kernel
theorem dX7_isWord_16 : decode cX7_isWord 16 = .ok (.getfield 71, 3) := by decide +kernel
theorem dX7_isWord_19 : decode cX7_isWord 19 = .ok (.aload_n 0, 1) := by decide +kernel
theorem dX7_isWord_20 : decode cX7_isWord 20 = .ok (.getfield 78, 3) := by decide +kernel
theorem dX7_isWord_23 : decode cX7_isWord 23 = .ok (.isub, 1) := by decide +kernel
theorem dX7_isWord_24 : decode cX7_isWord 24 = .ok (.aload_n 1, 1) := by decide +kernel
theorem dX7_isWord_25 : decode cX7_isWord 25 = .ok (.invokevirtual 108, 3) := by decide +kernel
theorem dX7_isWord_28 : decode cX7_isWord 28 = .ok (.if_icmp .ne 7, 3) := by decide +kernel
theorem dX7_isWord_31 : decode cX7_isWord 31 = .ok (.iconst 1, 1) := by decide +kernel
theorem dX7_isWord_32 : decode cX7_isWord 32 = .ok (.goto 4, 3) := by decide +kernel
theorem dX7_isWord_35 : decode cX7_isWord 35 = .ok (.iconst 0, 1) := by decide +kernel
theorem dX7_isWord_36 : decode cX7_isWord 36 = .ok (.istore_n 2, 1) := by decide +kernel
theorem dX7_isWord_37 : decode cX7_isWord 37 = .ok (.iconst 0, 1) := by decide +kernel
theorem dX7_isWord_38 : decode cX7_isWord 38 = .ok (.istore_n 3, 1) := by decide +kernel
theorem dX7_isWord_39 : decode cX7_isWord 39 = .ok (.iload_n 2, 1) := by decide +kernel
theorem dX7_isWord_40 : decode cX7_isWord 40 = .ok (.ifCond .eq 42, 3) := by decide +kernel
theorem dX7_isWord_43 : decode cX7_isWord 43 = .ok (.iload_n 3, 1) := by decide +kernel
theorem dX7_isWord_44 : decode cX7_isWord 44 = .ok (.aload_n 1, 1) := by decide +kernel
theorem dX7_isWord_45 : decode cX7_isWord 45 = .ok (.invokevirtual 108, 3) := by decide +kernel
theorem dX7_isWord_48 : decode cX7_isWord 48 = .ok (.if_icmp .ge 34, 3) := by decide +kernel
theorem dX7_isWord_51 : decode cX7_isWord 51 = .ok (.aload_n 0, 1) := by decide +kernel
theorem dX7_isWord_52 : decode cX7_isWord 52 = .ok (.getfield 9, 3) := by decide +kernel
theorem dX7_isWord_55 : decode cX7_isWord 55 = .ok (.aload_n 0, 1) := by decide +kernel
theorem dX7_isWord_56 : decode cX7_isWord 56 = .ok (.getfield 78, 3) := by decide +kernel
theorem dX7_isWord_59 : decode cX7_isWord 59 = .ok (.iload_n 3, 1) := by decide +kernel
theorem dX7_isWord_60 : decode cX7_isWord 60 = .ok (.iadd, 1) := by decide +kernel
theorem dX7_isWord_61 : decode cX7_isWord 61 = .ok (.iaload, 1) := by decide +kernel
theorem dX7_isWord_62 : decode cX7_isWord 62 = .ok (.aload_n 1, 1) := by decide +kernel
theorem dX7_isWord_63 : decode cX7_isWord 63 = .ok (.iload_n 3, 1) := by decide +kernel
theorem dX7_isWord_64 : decode cX7_isWord 64 = .ok (.invokevirtual 113, 3) := by decide +kernel
theorem dX7_isWord_67 : decode cX7_isWord 67 = .ok (.if_icmp .ne 7, 3) := by decide +kernel
theorem dX7_isWord_70 : decode cX7_isWord 70 = .ok (.iconst 1, 1) := by decide +kernel
theorem dX7_isWord_71 : decode cX7_isWord 71 = .ok (.goto 4, 3) := by decide +kernel
theorem dX7_isWord_74 : decode cX7_isWord 74 = .ok (.iconst 0, 1) := by decide +kernel
theorem dX7_isWord_75 : decode cX7_isWord 75 = .ok (.istore_n 2, 1) := by decide +kernel
theorem dX7_isWord_76 : decode cX7_isWord 76 = .ok (.iinc 3 1, 3) := by decide +kernel
theorem dX7_isWord_79 : decode cX7_isWord 79 = .ok (.goto (-40), 3) := by decide +kernel
theorem dX7_isWord_82 : decode cX7_isWord 82 = .ok (.iload_n 2, 1) := by decide +kernel
theorem dX7_isWord_83 : decode cX7_isWord 83 = .ok (.ireturn, 1) := by decide +kernel
theorem dX7_takeNumber_0 : decode cX7_takeNumber 0 = .ok (.aload_n 0, 1) := by decide +kernel
theorem dX7_takeNumber_1 : decode cX7_takeNumber 1 = .ok (.invokevirtual 104, 3) := by decide +kernel
theorem dX7_takeNumber_4 : decode cX7_takeNumber 4 = .ok (.ifCond .eq 36, 3) := by decide +kernel
theorem dX7_takeNumber_7 : decode cX7_takeNumber 7 = .ok (.aload_n 0, 1) := by decide +kernel
theorem dX7_takeNumber_8 : decode cX7_takeNumber 8 = .ok (.getfield 88, 3) := by decide +kernel
theorem dX7_takeNumber_11 : decode cX7_takeNumber 11 = .ok (.iconst 2, 1) := by decide +kernel
theorem dX7_takeNumber_12 : decode cX7_takeNumber 12 = .ok (.if_icmp .ne 28, 3) := by decide +kernel
theorem dX7_takeNumber_15 : decode cX7_takeNumber 15 = .ok (.aload_n 0, 1) := by decide +kernel
theorem dX7_takeNumber_16 : decode cX7_takeNumber 16 = .ok (.getfield 71, 3) := by decide +kernel
theorem dX7_takeNumber_19 : decode cX7_takeNumber 19 = .ok (.aload_n 0, 1) := by decide +kernel
theorem dX7_takeNumber_20 : decode cX7_takeNumber 20 = .ok (.getfield 78, 3) := by decide +kernel
theorem dX7_takeNumber_23 : decode cX7_takeNumber 23 = .ok (.isub, 1) := by decide +kernel
theorem dX7_takeNumber_24 : decode cX7_takeNumber 24 = .ok (.iconst 4, 1) := by decide +kernel
theorem dX7_takeNumber_25 : decode cX7_takeNumber 25 = .ok (.if_icmp .gt 15, 3) := by decide +kernel
theorem dX7_takeNumber_28 : decode cX7_takeNumber 28 = .ok (.aload_n 0, 1) := by decide +kernel
theorem dX7_takeNumber_29 : decode cX7_takeNumber 29 = .ok (.getfield 91, 3) := by decide +kernel
theorem dX7_takeNumber_32 : decode cX7_takeNumber 32 = .ok (.iload_n 1, 1) := by decide +kernel
theorem dX7_takeNumber_33 : decode cX7_takeNumber 33 = .ok (.iload_n 2, 1) := by decide +kernel
theorem dX7_takeNumber_34 : decode cX7_takeNumber 34 = .ok (.invokestatic 67, 3) := by decide +kernel
theorem dX7_takeNumber_37 : decode cX7_takeNumber 37 = .ok (.ifCond .ne 9, 3) := by decide +kernel
theorem dX7_takeNumber_40 : decode cX7_takeNumber 40 = .ok (.aload_n 0, 1) := by decide +kernel
theorem dX7_takeNumber_41 : decode cX7_takeNumber 41 = .ok (.invokevirtual 117, 3) := by decide +kernel
theorem dX7_takeNumber_44 : decode cX7_takeNumber 44 = .ok (.iload_n 1, 1) := by decide +kernel
theorem dX7_takeNumber_45 : decode cX7_takeNumber 45 = .ok (.ireturn, 1) := by decide +kernel
theorem dX7_takeNumber_46 : decode cX7_takeNumber 46 = .ok (.aload_n 0, 1) := by decide +kernel
theorem dX7_takeNumber_47 : decode cX7_takeNumber 47 = .ok (.getfield 91, 3) := by decide +kernel
theorem dX7_takeNumber_50 : decode cX7_takeNumber 50 = .ok (.istore_n 3, 1) := by decide +kernel
theorem dX7_takeNumber_51 : decode cX7_takeNumber 51 = .ok (.aload_n 0, 1) := by decide +kernel
theorem dX7_takeNumber_52 : decode cX7_takeNumber 52 = .ok (.invokevirtual 120, 3) := by decide +kernel
theorem dX7_takeNumber_55 : decode cX7_takeNumber 55 = .ok (.iload_n 3, 1) := by decide +kernel
theorem dX7_takeNumber_56 : decode cX7_takeNumber 56 = .ok (.ireturn, 1) := by decide +kernel
theorem dX7_begin_0 : decode cX7_begin 0 = .ok (.aload_n 0, 1) := by decide +kernel
theorem dX7_begin_1 : decode cX7_begin 1 = .ok (.getfield 16, 3) := by decide +kernel
theorem dX7_begin_4 : decode cX7_begin 4 = .ok (.iconst 0, 1) := by decide +kernel
theorem dX7_begin_5 : decode cX7_begin 5 = .ok (.iload_n 1, 1) := by decide +kernel
theorem dX7_begin_6 : decode cX7_begin 6 = .ok (.iastore, 1) := by decide +kernel
theorem dX7_begin_7 : decode cX7_begin 7 = .ok (.aload_n 0, 1) := by decide +kernel
theorem dX7_begin_8 : decode cX7_begin 8 = .ok (.getfield 16, 3) := by decide +kernel
theorem dX7_begin_11 : decode cX7_begin 11 = .ok (.iconst 1, 1) := by decide +kernel
theorem dX7_begin_12 : decode cX7_begin 12 = .ok (.iconst 0, 1) := by decide +kernel
theorem dX7_begin_13 : decode cX7_begin 13 = .ok (.iastore, 1) := by decide +kernel
theorem dX7_begin_14 : decode cX7_begin 14 = .ok (.return_, 1) := by decide +kernel
theorem dX7_add_0 : decode cX7_add 0 = .ok (.aload_n 0, 1) := by decide +kernel
theorem dX7_add_1 : decode cX7_add 1 = .ok (.getfield 16, 3) := by decide +kernel
theorem dX7_add_4 : decode cX7_add 4 = .ok (.iconst 2, 1) := by decide +kernel
theorem dX7_add_5 : decode cX7_add 5 = .ok (.aload_n 0, 1) := by decide +kernel
theorem dX7_add_6 : decode cX7_add 6 = .ok (.getfield 16, 3) := by decide +kernel
theorem dX7_add_9 : decode cX7_add 9 = .ok (.iconst 1, 1) := by decide +kernel
theorem dX7_add_10 : decode cX7_add 10 = .ok (.iaload, 1) := by decide +kernel
theorem dX7_add_11 : decode cX7_add 11 = .ok (.iadd, 1) := by decide +kernel
theorem dX7_add_12 : decode cX7_add 12 = .ok (.iload_n 1, 1) := by decide +kernel
theorem dX7_add_13 : decode cX7_add 13 = .ok (.iastore, 1) := by decide +kernel
theorem dX7_add_14 : decode cX7_add 14 = .ok (.aload_n 0, 1) := by decide +kernel
theorem dX7_add_15 : decode cX7_add 15 = .ok (.getfield 16, 3) := by decide +kernel
theorem dX7_add_18 : decode cX7_add 18 = .ok (.iconst 1, 1) := by decide +kernel
theorem dX7_add_19 : decode cX7_add 19 = .ok (.dup2, 1) := by decide +kernel
theorem dX7_add_20 : decode cX7_add 20 = .ok (.iaload, 1) := by decide +kernel
theorem dX7_add_21 : decode cX7_add 21 = .ok (.iconst 1, 1) := by decide +kernel
theorem dX7_add_22 : decode cX7_add 22 = .ok (.iadd, 1) := by decide +kernel
theorem dX7_add_23 : decode cX7_add 23 = .ok (.iastore, 1) := by decide +kernel
theorem dX7_add_24 : decode cX7_add 24 = .ok (.return_, 1) := by decide +kernel
theorem dX7_every_0 : decode cX7_every 0 = .ok (.iconst 1, 1) := by decide +kernel
theorem dX7_every_1 : decode cX7_every 1 = .ok (.iload_n 0, 1) := by decide +kernel
theorem dX7_every_2 : decode cX7_every 2 = .ok (.ishl, 1) := by decide +kernel
theorem dX7_every_3 : decode cX7_every 3 = .ok (.iconst 1, 1) := by decide +kernel
theorem dX7_every_4 : decode cX7_every 4 = .ok (.isub, 1) := by decide +kernel
theorem dX7_every_5 : decode cX7_every 5 = .ok (.ireturn, 1) := by decide +kernel
theorem dX7_makeSimplex_0 : decode cX7_makeSimplex 0 = .ok (.aload_n 0, 1) := by decide +kernel
theorem dX7_makeSimplex_1 : decode cX7_makeSimplex 1 = .ok (.iload_n 1, 1) := by decide +kernel
theorem dX7_makeSimplex_2 : decode cX7_makeSimplex 2 = .ok (.invokevirtual 123, 3) := by decide +kernel
theorem dX7_makeSimplex_5 : decode cX7_makeSimplex 5 = .ok (.iconst 0, 1) := by decide +kernel
theorem dX7_makeSimplex_6 : decode cX7_makeSimplex 6 = .ok (.istore_n 2, 1) := by decide +kernel
theorem dX7_makeSimplex_7 : decode cX7_makeSimplex 7 = .ok (.iload_n 2, 1) := by decide +kernel
theorem dX7_makeSimplex_8 : decode cX7_makeSimplex 8 = .ok (.iload_n 1, 1) := by decide +kernel
theorem dX7_makeSimplex_9 : decode cX7_makeSimplex 9 = .ok (.if_icmp .ge 23, 3) := by decide +kernel
theorem dX7_makeSimplex_12 : decode cX7_makeSimplex 12 = .ok (.aload_n 0, 1) := by decide +kernel
theorem dX7_makeSimplex_13 : decode cX7_makeSimplex 13 = .ok (.iload_n 1, 1) := by decide +kernel
theorem dX7_makeSimplex_14 : decode cX7_makeSimplex 14 = .ok (.invokestatic 127, 3) := by decide +kernel
theorem dX7_makeSimplex_17 : decode cX7_makeSimplex 17 = .ok (.iconst 1, 1) := by decide +kernel
theorem dX7_makeSimplex_18 : decode cX7_makeSimplex 18 = .ok (.iload_n 2, 1) := by decide +kernel
theorem dX7_makeSimplex_19 : decode cX7_makeSimplex 19 = .ok (.ishl, 1) := by decide +kernel
theorem dX7_makeSimplex_20 : decode cX7_makeSimplex 20 = .ok (.iconst (-1), 1) := by decide +kernel
theorem dX7_makeSimplex_21 : decode cX7_makeSimplex 21 = .ok (.ixor, 1) := by decide +kernel
theorem dX7_makeSimplex_22 : decode cX7_makeSimplex 22 = .ok (.iand, 1) := by decide +kernel
theorem dX7_makeSimplex_23 : decode cX7_makeSimplex 23 = .ok (.invokevirtual 130, 3) := by decide +kernel
theorem dX7_makeSimplex_26 : decode cX7_makeSimplex 26 = .ok (.iinc 2 1, 3) := by decide +kernel
theorem dX7_makeSimplex_29 : decode cX7_makeSimplex 29 = .ok (.goto (-22), 3) := by decide +kernel
theorem dX7_makeSimplex_32 : decode cX7_makeSimplex 32 = .ok (.return_, 1) := by decide +kernel
theorem dX7_makeCycle_0 : decode cX7_makeCycle 0 = .ok (.aload_n 0, 1) := by decide +kernel
theorem dX7_makeCycle_1 : decode cX7_makeCycle 1 = .ok (.iload_n 1, 1) := by decide +kernel
theorem dX7_makeCycle_2 : decode cX7_makeCycle 2 = .ok (.invokevirtual 123, 3) := by decide +kernel
theorem dX7_makeCycle_5 : decode cX7_makeCycle 5 = .ok (.iconst 0, 1) := by decide +kernel
theorem dX7_makeCycle_6 : decode cX7_makeCycle 6 = .ok (.istore_n 2, 1) := by decide +kernel
theorem dX7_makeCycle_7 : decode cX7_makeCycle 7 = .ok (.iload_n 2, 1) := by decide +kernel
theorem dX7_makeCycle_8 : decode cX7_makeCycle 8 = .ok (.iload_n 1, 1) := by decide +kernel
theorem dX7_makeCycle_9 : decode cX7_makeCycle 9 = .ok (.if_icmp .ge 24, 3) := by decide +kernel
theorem dX7_makeCycle_12 : decode cX7_makeCycle 12 = .ok (.aload_n 0, 1) := by decide +kernel
theorem dX7_makeCycle_13 : decode cX7_makeCycle 13 = .ok (.iconst 1, 1) := by decide +kernel
theorem dX7_makeCycle_14 : decode cX7_makeCycle 14 = .ok (.iload_n 2, 1) := by decide +kernel
theorem dX7_makeCycle_15 : decode cX7_makeCycle 15 = .ok (.ishl, 1) := by decide +kernel
theorem dX7_makeCycle_16 : decode cX7_makeCycle 16 = .ok (.iconst 1, 1) := by decide +kernel
theorem dX7_makeCycle_17 : decode cX7_makeCycle 17 = .ok (.iload_n 2, 1) := by decide +kernel
theorem dX7_makeCycle_18 : decode cX7_makeCycle 18 = .ok (.iconst 1, 1) := by decide +kernel
theorem dX7_makeCycle_19 : decode cX7_makeCycle 19 = .ok (.iadd, 1) := by decide +kernel
theorem dX7_makeCycle_20 : decode cX7_makeCycle 20 = .ok (.iload_n 1, 1) := by decide +kernel
theorem dX7_makeCycle_21 : decode cX7_makeCycle 21 = .ok (.irem, 1) := by decide +kernel
theorem dX7_makeCycle_22 : decode cX7_makeCycle 22 = .ok (.ishl, 1) := by decide +kernel
theorem dX7_makeCycle_23 : decode cX7_makeCycle 23 = .ok (.ior, 1) := by decide +kernel
theorem dX7_makeCycle_24 : decode cX7_makeCycle 24 = .ok (.invokevirtual 130, 3) := by decide +kernel
theorem dX7_makeCycle_27 : decode cX7_makeCycle 27 = .ok (.iinc 2 1, 3) := by decide +kernel
theorem dX7_makeCycle_30 : decode cX7_makeCycle 30 = .ok (.goto (-23), 3) := by decide +kernel
theorem dX7_makeCycle_33 : decode cX7_makeCycle 33 = .ok (.return_, 1) := by decide +kernel
theorem dX7_makeCube_0 : decode cX7_makeCube 0 = .ok (.aload_n 0, 1) := by decide +kernel
theorem dX7_makeCube_1 : decode cX7_makeCube 1 = .ok (.iconst 1, 1) := by decide +kernel
theorem dX7_makeCube_2 : decode cX7_makeCube 2 = .ok (.iload_n 1, 1) := by decide +kernel
theorem dX7_makeCube_3 : decode cX7_makeCube 3 = .ok (.ishl, 1) := by decide +kernel
theorem dX7_makeCube_4 : decode cX7_makeCube 4 = .ok (.invokevirtual 123, 3) := by decide +kernel
theorem dX7_makeCube_7 : decode cX7_makeCube 7 = .ok (.iconst 0, 1) := by decide +kernel
theorem dX7_makeCube_8 : decode cX7_makeCube 8 = .ok (.istore_n 2, 1) := by decide +kernel
theorem dX7_makeCube_9 : decode cX7_makeCube 9 = .ok (.iload_n 2, 1) := by decide +kernel
theorem dX7_makeCube_10 : decode cX7_makeCube 10 = .ok (.iconst 2, 1) := by decide +kernel
theorem dX7_makeCube_11 : decode cX7_makeCube 11 = .ok (.iload_n 1, 1) := by decide +kernel
theorem dX7_makeCube_12 : decode cX7_makeCube 12 = .ok (.imul, 1) := by decide +kernel
theorem dX7_makeCube_13 : decode cX7_makeCube 13 = .ok (.if_icmp .ge 58, 3) := by decide +kernel
theorem dX7_makeCube_16 : decode cX7_makeCube 16 = .ok (.iconst 0, 1) := by decide +kernel
theorem dX7_makeCube_17 : decode cX7_makeCube 17 = .ok (.istore_n 3, 1) := by decide +kernel
theorem dX7_makeCube_18 : decode cX7_makeCube 18 = .ok (.iconst 0, 1) := by decide +kernel
theorem dX7_makeCube_19 : decode cX7_makeCube 19 = .ok (.istore 4, 2) := by decide +kernel
theorem dX7_makeCube_21 : decode cX7_makeCube 21 = .ok (.iload 4, 2) := by decide +kernel
theorem dX7_makeCube_23 : decode cX7_makeCube 23 = .ok (.iconst 1, 1) := by decide +kernel
theorem dX7_makeCube_24 : decode cX7_makeCube 24 = .ok (.iload_n 1, 1) := by decide +kernel
theorem dX7_makeCube_25 : decode cX7_makeCube 25 = .ok (.ishl, 1) := by decide +kernel
theorem dX7_makeCube_26 : decode cX7_makeCube 26 = .ok (.if_icmp .ge 34, 3) := by decide +kernel
theorem dX7_makeCube_29 : decode cX7_makeCube 29 = .ok (.iload_n 3, 1) := by decide +kernel
theorem dX7_makeCube_30 : decode cX7_makeCube 30 = .ok (.iload 4, 2) := by decide +kernel
theorem dX7_makeCube_32 : decode cX7_makeCube 32 = .ok (.iload_n 2, 1) := by decide +kernel
theorem dX7_makeCube_33 : decode cX7_makeCube 33 = .ok (.iconst 2, 1) := by decide +kernel
theorem dX7_makeCube_34 : decode cX7_makeCube 34 = .ok (.idiv, 1) := by decide +kernel
theorem dX7_makeCube_35 : decode cX7_makeCube 35 = .ok (.ishr, 1) := by decide +kernel
theorem dX7_makeCube_36 : decode cX7_makeCube 36 = .ok (.iconst 1, 1) := by decide +kernel
theorem dX7_makeCube_37 : decode cX7_makeCube 37 = .ok (.iand, 1) := by decide +kernel
theorem dX7_makeCube_38 : decode cX7_makeCube 38 = .ok (.iload_n 2, 1) := by decide +kernel
theorem dX7_makeCube_39 : decode cX7_makeCube 39 = .ok (.iconst 2, 1) := by decide +kernel
theorem dX7_makeCube_40 : decode cX7_makeCube 40 = .ok (.irem, 1) := by decide +kernel
theorem dX7_makeCube_41 : decode cX7_makeCube 41 = .ok (.if_icmp .ne 10, 3) := by decide +kernel
theorem dX7_makeCube_44 : decode cX7_makeCube 44 = .ok (.iconst 1, 1) := by decide +kernel
theorem dX7_makeCube_45 : decode cX7_makeCube 45 = .ok (.iload 4, 2) := by decide +kernel
theorem dX7_makeCube_47 : decode cX7_makeCube 47 = .ok (.ishl, 1) := by decide +kernel
theorem dX7_makeCube_48 : decode cX7_makeCube 48 = .ok (.goto 4, 3) := by decide +kernel
theorem dX7_makeCube_51 : decode cX7_makeCube 51 = .ok (.iconst 0, 1) := by decide +kernel
theorem dX7_makeCube_52 : decode cX7_makeCube 52 = .ok (.ior, 1) := by decide +kernel
theorem dX7_makeCube_53 : decode cX7_makeCube 53 = .ok (.istore_n 3, 1) := by decide +kernel
theorem dX7_makeCube_54 : decode cX7_makeCube 54 = .ok (.iinc 4 1, 3) := by decide +kernel
theorem dX7_makeCube_57 : decode cX7_makeCube 57 = .ok (.goto (-36), 3) := by decide +kernel
theorem dX7_makeCube_60 : decode cX7_makeCube 60 = .ok (.aload_n 0, 1) := by decide +kernel
theorem dX7_makeCube_61 : decode cX7_makeCube 61 = .ok (.iload_n 3, 1) := by decide +kernel
theorem dX7_makeCube_62 : decode cX7_makeCube 62 = .ok (.invokevirtual 130, 3) := by decide +kernel
theorem dX7_makeCube_65 : decode cX7_makeCube 65 = .ok (.iinc 2 1, 3) := by decide +kernel
theorem dX7_makeCube_68 : decode cX7_makeCube 68 = .ok (.goto (-59), 3) := by decide +kernel
theorem dX7_makeCube_71 : decode cX7_makeCube 71 = .ok (.return_, 1) := by decide +kernel
theorem dX7_makeCross_0 : decode cX7_makeCross 0 = .ok (.aload_n 0, 1) := by decide +kernel
theorem dX7_makeCross_1 : decode cX7_makeCross 1 = .ok (.iconst 2, 1) := by decide +kernel
theorem dX7_makeCross_2 : decode cX7_makeCross 2 = .ok (.iload_n 1, 1) := by decide +kernel
theorem dX7_makeCross_3 : decode cX7_makeCross 3 = .ok (.imul, 1) := by decide +kernel
theorem dX7_makeCross_4 : decode cX7_makeCross 4 = .ok (.invokevirtual 123, 3) := by decide +kernel
theorem dX7_makeCross_7 : decode cX7_makeCross 7 = .ok (.iconst 0, 1) := by decide +kernel
theorem dX7_makeCross_8 : decode cX7_makeCross 8 = .ok (.istore_n 2, 1) := by decide +kernel
theorem dX7_makeCross_9 : decode cX7_makeCross 9 = .ok (.iload_n 2, 1) := by decide +kernel
theorem dX7_makeCross_10 : decode cX7_makeCross 10 = .ok (.iconst 1, 1) := by decide +kernel
theorem dX7_makeCross_11 : decode cX7_makeCross 11 = .ok (.iload_n 1, 1) := by decide +kernel
theorem dX7_makeCross_12 : decode cX7_makeCross 12 = .ok (.ishl, 1) := by decide +kernel
theorem dX7_makeCross_13 : decode cX7_makeCross 13 = .ok (.if_icmp .ge 47, 3) := by decide +kernel
theorem dX7_makeCross_16 : decode cX7_makeCross 16 = .ok (.iconst 0, 1) := by decide +kernel
theorem dX7_makeCross_17 : decode cX7_makeCross 17 = .ok (.istore_n 3, 1) := by decide +kernel
theorem dX7_makeCross_18 : decode cX7_makeCross 18 = .ok (.iconst 0, 1) := by decide +kernel
theorem dX7_makeCross_19 : decode cX7_makeCross 19 = .ok (.istore 4, 2) := by decide +kernel
theorem dX7_makeCross_21 : decode cX7_makeCross 21 = .ok (.iload 4, 2) := by decide +kernel
theorem dX7_makeCross_23 : decode cX7_makeCross 23 = .ok (.iload_n 1, 1) := by decide +kernel
theorem dX7_makeCross_24 : decode cX7_makeCross 24 = .ok (.if_icmp .ge 25, 3) := by decide +kernel
theorem dX7_makeCross_27 : decode cX7_makeCross 27 = .ok (.iload_n 3, 1) := by decide +kernel
theorem dX7_makeCross_28 : decode cX7_makeCross 28 = .ok (.iconst 1, 1) := by decide +kernel
theorem dX7_makeCross_29 : decode cX7_makeCross 29 = .ok (.iconst 2, 1) := by decide +kernel
theorem dX7_makeCross_30 : decode cX7_makeCross 30 = .ok (.iload 4, 2) := by decide +kernel
theorem dX7_makeCross_32 : decode cX7_makeCross 32 = .ok (.imul, 1) := by decide +kernel
theorem dX7_makeCross_33 : decode cX7_makeCross 33 = .ok (.iload_n 2, 1) := by decide +kernel
theorem dX7_makeCross_34 : decode cX7_makeCross 34 = .ok (.iload 4, 2) := by decide +kernel
theorem dX7_makeCross_36 : decode cX7_makeCross 36 = .ok (.ishr, 1) := by decide +kernel
theorem dX7_makeCross_37 : decode cX7_makeCross 37 = .ok (.iconst 1, 1) := by decide +kernel
theorem dX7_makeCross_38 : decode cX7_makeCross 38 = .ok (.iand, 1) := by decide +kernel
theorem dX7_makeCross_39 : decode cX7_makeCross 39 = .ok (.iadd, 1) := by decide +kernel
theorem dX7_makeCross_40 : decode cX7_makeCross 40 = .ok (.ishl, 1) := by decide +kernel
theorem dX7_makeCross_41 : decode cX7_makeCross 41 = .ok (.ior, 1) := by decide +kernel
theorem dX7_makeCross_42 : decode cX7_makeCross 42 = .ok (.istore_n 3, 1) := by decide +kernel
theorem dX7_makeCross_43 : decode cX7_makeCross 43 = .ok (.iinc 4 1, 3) := by decide +kernel
theorem dX7_makeCross_46 : decode cX7_makeCross 46 = .ok (.goto (-25), 3) := by decide +kernel
theorem dX7_makeCross_49 : decode cX7_makeCross 49 = .ok (.aload_n 0, 1) := by decide +kernel
theorem dX7_makeCross_50 : decode cX7_makeCross 50 = .ok (.iload_n 3, 1) := by decide +kernel
theorem dX7_makeCross_51 : decode cX7_makeCross 51 = .ok (.invokevirtual 130, 3) := by decide +kernel
theorem dX7_makeCross_54 : decode cX7_makeCross 54 = .ok (.iinc 2 1, 3) := by decide +kernel
theorem dX7_makeCross_57 : decode cX7_makeCross 57 = .ok (.goto (-48), 3) := by decide +kernel
theorem dX7_makeCross_60 : decode cX7_makeCross 60 = .ok (.return_, 1) := by decide +kernel
theorem dX7_takeSize_0 : decode cX7_takeSize 0 = .ok (.aload_n 0, 1) := by decide +kernel
theorem dX7_takeSize_1 : decode cX7_takeSize 1 = .ok (.invokevirtual 120, 3) := by decide +kernel
theorem dX7_takeSize_4 : decode cX7_takeSize 4 = .ok (.aload_n 0, 1) := by decide +kernel
theorem dX7_takeSize_5 : decode cX7_takeSize 5 = .ok (.iload_n 1, 1) := by decide +kernel
theorem dX7_takeSize_6 : decode cX7_takeSize 6 = .ok (.iload_n 2, 1) := by decide +kernel
theorem dX7_takeSize_7 : decode cX7_takeSize 7 = .ok (.invokevirtual 133, 3) := by decide +kernel
theorem dX7_takeSize_10 : decode cX7_takeSize 10 = .ok (.ireturn, 1) := by decide +kernel
theorem dX7_readFirst_0 : decode cX7_readFirst 0 = .ok (.aload_n 0, 1) := by decide +kernel
theorem dX7_readFirst_1 : decode cX7_readFirst 1 = .ok (.ldc 136, 2) := by decide +kernel
theorem dX7_readFirst_3 : decode cX7_readFirst 3 = .ok (.invokevirtual 138, 3) := by decide +kernel
theorem dX7_readFirst_6 : decode cX7_readFirst 6 = .ok (.ifCond .eq 17, 3) := by decide +kernel
theorem dX7_readFirst_9 : decode cX7_readFirst 9 = .ok (.aload_n 0, 1) := by decide +kernel
theorem dX7_readFirst_10 : decode cX7_readFirst 10 = .ok (.aload_n 0, 1) := by decide +kernel
theorem dX7_readFirst_11 : decode cX7_readFirst 11 = .ok (.iconst 1, 1) := by decide +kernel
theorem dX7_readFirst_12 : decode cX7_readFirst 12 = .ok (.bipush 8, 2) := by decide +kernel
theorem dX7_readFirst_14 : decode cX7_readFirst 14 = .ok (.invokevirtual 142, 3) := by decide +kernel
theorem dX7_readFirst_17 : decode cX7_readFirst 17 = .ok (.invokevirtual 123, 3) := by decide +kernel
theorem dX7_readFirst_20 : decode cX7_readFirst 20 = .ok (.goto 97, 3) := by decide +kernel
theorem dX7_readFirst_23 : decode cX7_readFirst 23 = .ok (.aload_n 0, 1) := by decide +kernel
theorem dX7_readFirst_24 : decode cX7_readFirst 24 = .ok (.ldc 145, 2) := by decide +kernel
theorem dX7_readFirst_26 : decode cX7_readFirst 26 = .ok (.invokevirtual 138, 3) := by decide +kernel
theorem dX7_readFirst_29 : decode cX7_readFirst 29 = .ok (.ifCond .eq 17, 3) := by decide +kernel
theorem dX7_readFirst_32 : decode cX7_readFirst 32 = .ok (.aload_n 0, 1) := by decide +kernel
theorem dX7_readFirst_33 : decode cX7_readFirst 33 = .ok (.aload_n 0, 1) := by decide +kernel
theorem dX7_readFirst_34 : decode cX7_readFirst 34 = .ok (.iconst 2, 1) := by decide +kernel
theorem dX7_readFirst_35 : decode cX7_readFirst 35 = .ok (.bipush 8, 2) := by decide +kernel
theorem dX7_readFirst_37 : decode cX7_readFirst 37 = .ok (.invokevirtual 142, 3) := by decide +kernel
theorem dX7_readFirst_40 : decode cX7_readFirst 40 = .ok (.invokevirtual 147, 3) := by decide +kernel
theorem dX7_readFirst_43 : decode cX7_readFirst 43 = .ok (.goto 74, 3) := by decide +kernel
theorem dX7_readFirst_46 : decode cX7_readFirst 46 = .ok (.aload_n 0, 1) := by decide +kernel
theorem dX7_readFirst_47 : decode cX7_readFirst 47 = .ok (.ldc 150, 2) := by decide +kernel
theorem dX7_readFirst_49 : decode cX7_readFirst 49 = .ok (.invokevirtual 138, 3) := by decide +kernel
theorem dX7_readFirst_52 : decode cX7_readFirst 52 = .ok (.ifCond .eq 17, 3) := by decide +kernel
theorem dX7_readFirst_55 : decode cX7_readFirst 55 = .ok (.aload_n 0, 1) := by decide +kernel
theorem dX7_readFirst_56 : decode cX7_readFirst 56 = .ok (.aload_n 0, 1) := by decide +kernel
theorem dX7_readFirst_57 : decode cX7_readFirst 57 = .ok (.iconst 3, 1) := by decide +kernel
theorem dX7_readFirst_58 : decode cX7_readFirst 58 = .ok (.bipush 8, 2) := by decide +kernel
theorem dX7_readFirst_60 : decode cX7_readFirst 60 = .ok (.invokevirtual 142, 3) := by decide +kernel
theorem dX7_readFirst_63 : decode cX7_readFirst 63 = .ok (.invokevirtual 152, 3) := by decide +kernel
theorem dX7_readFirst_66 : decode cX7_readFirst 66 = .ok (.goto 51, 3) := by decide +kernel
theorem dX7_readFirst_69 : decode cX7_readFirst 69 = .ok (.aload_n 0, 1) := by decide +kernel
theorem dX7_readFirst_70 : decode cX7_readFirst 70 = .ok (.ldc 155, 2) := by decide +kernel
theorem dX7_readFirst_72 : decode cX7_readFirst 72 = .ok (.invokevirtual 138, 3) := by decide +kernel
theorem dX7_readFirst_75 : decode cX7_readFirst 75 = .ok (.ifCond .eq 16, 3) := by decide +kernel
theorem dX7_readFirst_78 : decode cX7_readFirst 78 = .ok (.aload_n 0, 1) := by decide +kernel
theorem dX7_readFirst_79 : decode cX7_readFirst 79 = .ok (.aload_n 0, 1) := by decide +kernel
theorem dX7_readFirst_80 : decode cX7_readFirst 80 = .ok (.iconst 1, 1) := by decide +kernel
theorem dX7_readFirst_81 : decode cX7_readFirst 81 = .ok (.iconst 3, 1) := by decide +kernel
theorem dX7_readFirst_82 : decode cX7_readFirst 82 = .ok (.invokevirtual 142, 3) := by decide +kernel
theorem dX7_readFirst_85 : decode cX7_readFirst 85 = .ok (.invokevirtual 157, 3) := by decide +kernel
theorem dX7_readFirst_88 : decode cX7_readFirst 88 = .ok (.goto 29, 3) := by decide +kernel
theorem dX7_readFirst_91 : decode cX7_readFirst 91 = .ok (.aload_n 0, 1) := by decide +kernel
theorem dX7_readFirst_92 : decode cX7_readFirst 92 = .ok (.ldc 160, 2) := by decide +kernel
theorem dX7_readFirst_94 : decode cX7_readFirst 94 = .ok (.invokevirtual 138, 3) := by decide +kernel
theorem dX7_readFirst_97 : decode cX7_readFirst 97 = .ok (.ifCond .eq 16, 3) := by decide +kernel
theorem dX7_readFirst_100 : decode cX7_readFirst 100 = .ok (.aload_n 0, 1) := by decide +kernel
theorem dX7_readFirst_101 : decode cX7_readFirst 101 = .ok (.aload_n 0, 1) := by decide +kernel
theorem dX7_readFirst_102 : decode cX7_readFirst 102 = .ok (.iconst 1, 1) := by decide +kernel
theorem dX7_readFirst_103 : decode cX7_readFirst 103 = .ok (.iconst 3, 1) := by decide +kernel
theorem dX7_readFirst_104 : decode cX7_readFirst 104 = .ok (.invokevirtual 142, 3) := by decide +kernel
theorem dX7_readFirst_107 : decode cX7_readFirst 107 = .ok (.invokevirtual 162, 3) := by decide +kernel
theorem dX7_readFirst_110 : decode cX7_readFirst 110 = .ok (.goto 7, 3) := by decide +kernel
theorem dX7_readFirst_113 : decode cX7_readFirst 113 = .ok (.aload_n 0, 1) := by decide +kernel
theorem dX7_readFirst_114 : decode cX7_readFirst 114 = .ok (.invokevirtual 117, 3) := by decide +kernel
theorem dX7_readFirst_117 : decode cX7_readFirst 117 = .ok (.return_, 1) := by decide +kernel
theorem dX7_takePoint_0 : decode cX7_takePoint 0 = .ok (.aload_n 0, 1) := by decide +kernel
theorem dX7_takePoint_1 : decode cX7_takePoint 1 = .ok (.getfield 88, 3) := by decide +kernel
theorem dX7_takePoint_4 : decode cX7_takePoint 4 = .ok (.iconst 2, 1) := by decide +kernel
theorem dX7_takePoint_5 : decode cX7_takePoint 5 = .ok (.if_icmp .ne 50, 3) := by decide +kernel
theorem dX7_takePoint_8 : decode cX7_takePoint 8 = .ok (.aload_n 0, 1) := by decide +kernel
theorem dX7_takePoint_9 : decode cX7_takePoint 9 = .ok (.getfield 71, 3) := by decide +kernel
theorem dX7_takePoint_12 : decode cX7_takePoint 12 = .ok (.aload_n 0, 1) := by decide +kernel
theorem dX7_takePoint_13 : decode cX7_takePoint 13 = .ok (.getfield 78, 3) := by decide +kernel
theorem dX7_takePoint_16 : decode cX7_takePoint 16 = .ok (.isub, 1) := by decide +kernel
theorem dX7_takePoint_17 : decode cX7_takePoint 17 = .ok (.iconst 4, 1) := by decide +kernel
theorem dX7_takePoint_18 : decode cX7_takePoint 18 = .ok (.if_icmp .gt 37, 3) := by decide +kernel
theorem dX7_takePoint_21 : decode cX7_takePoint 21 = .ok (.aload_n 0, 1) := by decide +kernel
theorem dX7_takePoint_22 : decode cX7_takePoint 22 = .ok (.getfield 91, 3) := by decide +kernel
theorem dX7_takePoint_25 : decode cX7_takePoint 25 = .ok (.iconst 0, 1) := by decide +kernel
theorem dX7_takePoint_26 : decode cX7_takePoint 26 = .ok (.aload_n 0, 1) := by decide +kernel
theorem dX7_takePoint_27 : decode cX7_takePoint 27 = .ok (.getfield 16, 3) := by decide +kernel
theorem dX7_takePoint_30 : decode cX7_takePoint 30 = .ok (.iconst 0, 1) := by decide +kernel
theorem dX7_takePoint_31 : decode cX7_takePoint 31 = .ok (.iaload, 1) := by decide +kernel
theorem dX7_takePoint_32 : decode cX7_takePoint 32 = .ok (.iconst 1, 1) := by decide +kernel
theorem dX7_takePoint_33 : decode cX7_takePoint 33 = .ok (.isub, 1) := by decide +kernel
theorem dX7_takePoint_34 : decode cX7_takePoint 34 = .ok (.invokestatic 67, 3) := by decide +kernel
theorem dX7_takePoint_37 : decode cX7_takePoint 37 = .ok (.ifCond .eq 18, 3) := by decide +kernel
theorem dX7_takePoint_40 : decode cX7_takePoint 40 = .ok (.iload_n 1, 1) := by decide +kernel
theorem dX7_takePoint_41 : decode cX7_takePoint 41 = .ok (.aload_n 0, 1) := by decide +kernel
theorem dX7_takePoint_42 : decode cX7_takePoint 42 = .ok (.getfield 91, 3) := by decide +kernel
theorem dX7_takePoint_45 : decode cX7_takePoint 45 = .ok (.invokestatic 165, 3) := by decide +kernel
theorem dX7_takePoint_48 : decode cX7_takePoint 48 = .ok (.ifCond .eq 7, 3) := by decide +kernel
theorem dX7_takePoint_51 : decode cX7_takePoint 51 = .ok (.aload_n 0, 1) := by decide +kernel
theorem dX7_takePoint_52 : decode cX7_takePoint 52 = .ok (.invokevirtual 117, 3) := by decide +kernel
theorem dX7_takePoint_55 : decode cX7_takePoint 55 = .ok (.aload_n 0, 1) := by decide +kernel
theorem dX7_takePoint_56 : decode cX7_takePoint 56 = .ok (.iconst 0, 1) := by decide +kernel
theorem dX7_takePoint_57 : decode cX7_takePoint 57 = .ok (.aload_n 0, 1) := by decide +kernel
theorem dX7_takePoint_58 : decode cX7_takePoint 58 = .ok (.getfield 16, 3) := by decide +kernel
theorem dX7_takePoint_61 : decode cX7_takePoint 61 = .ok (.iconst 0, 1) := by decide +kernel
theorem dX7_takePoint_62 : decode cX7_takePoint 62 = .ok (.iaload, 1) := by decide +kernel
theorem dX7_takePoint_63 : decode cX7_takePoint 63 = .ok (.iconst 1, 1) := by decide +kernel
theorem dX7_takePoint_64 : decode cX7_takePoint 64 = .ok (.isub, 1) := by decide +kernel
theorem dX7_takePoint_65 : decode cX7_takePoint 65 = .ok (.invokevirtual 133, 3) := by decide +kernel
theorem dX7_takePoint_68 : decode cX7_takePoint 68 = .ok (.ireturn, 1) := by decide +kernel
theorem dX7_readFacet_0 : decode cX7_readFacet 0 = .ok (.aload_n 0, 1) := by decide +kernel
theorem dX7_readFacet_1 : decode cX7_readFacet 1 = .ok (.ldc 169, 2) := by decide +kernel
theorem dX7_readFacet_3 : decode cX7_readFacet 3 = .ok (.invokevirtual 138, 3) := by decide +kernel
theorem dX7_readFacet_6 : decode cX7_readFacet 6 = .ok (.ifCond .eq 14, 3) := by decide +kernel
theorem dX7_readFacet_9 : decode cX7_readFacet 9 = .ok (.aload_n 0, 1) := by decide +kernel
theorem dX7_readFacet_10 : decode cX7_readFacet 10 = .ok (.getfield 16, 3) := by decide +kernel
theorem dX7_readFacet_13 : decode cX7_readFacet 13 = .ok (.iconst 1, 1) := by decide +kernel
theorem dX7_readFacet_14 : decode cX7_readFacet 14 = .ok (.iaload, 1) := by decide +kernel
theorem dX7_readFacet_15 : decode cX7_readFacet 15 = .ok (.bipush 10, 2) := by decide +kernel
theorem dX7_readFacet_17 : decode cX7_readFacet 17 = .ok (.if_icmp .ne 8, 3) := by decide +kernel
theorem dX7_readFacet_20 : decode cX7_readFacet 20 = .ok (.aload_n 0, 1) := by decide +kernel
theorem dX7_readFacet_21 : decode cX7_readFacet 21 = .ok (.invokevirtual 117, 3) := by decide +kernel
theorem dX7_readFacet_24 : decode cX7_readFacet 24 = .ok (.return_, 1) := by decide +kernel
theorem dX7_readFacet_25 : decode cX7_readFacet 25 = .ok (.aload_n 0, 1) := by decide +kernel
theorem dX7_readFacet_26 : decode cX7_readFacet 26 = .ok (.invokevirtual 120, 3) := by decide +kernel
theorem dX7_readFacet_29 : decode cX7_readFacet 29 = .ok (.iconst 1, 1) := by decide +kernel
theorem dX7_readFacet_30 : decode cX7_readFacet 30 = .ok (.aload_n 0, 1) := by decide +kernel
theorem dX7_readFacet_31 : decode cX7_readFacet 31 = .ok (.iconst 0, 1) := by decide +kernel
theorem dX7_readFacet_32 : decode cX7_readFacet 32 = .ok (.invokevirtual 171, 3) := by decide +kernel
theorem dX7_readFacet_35 : decode cX7_readFacet 35 = .ok (.ishl, 1) := by decide +kernel
theorem dX7_readFacet_36 : decode cX7_readFacet 36 = .ok (.istore_n 1, 1) := by decide +kernel
theorem dX7_readFacet_37 : decode cX7_readFacet 37 = .ok (.aload_n 0, 1) := by decide +kernel
theorem dX7_readFacet_38 : decode cX7_readFacet 38 = .ok (.invokevirtual 104, 3) := by decide +kernel
theorem dX7_readFacet_41 : decode cX7_readFacet 41 = .ok (.ifCond .eq 24, 3) := by decide +kernel
theorem dX7_readFacet_44 : decode cX7_readFacet 44 = .ok (.aload_n 0, 1) := by decide +kernel
theorem dX7_readFacet_45 : decode cX7_readFacet 45 = .ok (.getfield 88, 3) := by decide +kernel
theorem dX7_readFacet_48 : decode cX7_readFacet 48 = .ok (.iconst 2, 1) := by decide +kernel
theorem dX7_readFacet_49 : decode cX7_readFacet 49 = .ok (.if_icmp .ne 16, 3) := by decide +kernel
theorem dX7_readFacet_52 : decode cX7_readFacet 52 = .ok (.iload_n 1, 1) := by decide +kernel
theorem dX7_readFacet_53 : decode cX7_readFacet 53 = .ok (.iconst 1, 1) := by decide +kernel
theorem dX7_readFacet_54 : decode cX7_readFacet 54 = .ok (.aload_n 0, 1) := by decide +kernel
theorem dX7_readFacet_55 : decode cX7_readFacet 55 = .ok (.iload_n 1, 1) := by decide +kernel
theorem dX7_readFacet_56 : decode cX7_readFacet 56 = .ok (.invokevirtual 171, 3) := by decide +kernel
theorem dX7_readFacet_59 : decode cX7_readFacet 59 = .ok (.ishl, 1) := by decide +kernel
theorem dX7_readFacet_60 : decode cX7_readFacet 60 = .ok (.ior, 1) := by decide +kernel
theorem dX7_readFacet_61 : decode cX7_readFacet 61 = .ok (.istore_n 1, 1) := by decide +kernel
theorem dX7_readFacet_62 : decode cX7_readFacet 62 = .ok (.goto (-25), 3) := by decide +kernel
theorem dX7_readFacet_65 : decode cX7_readFacet 65 = .ok (.aload_n 0, 1) := by decide +kernel
theorem dX7_readFacet_66 : decode cX7_readFacet 66 = .ok (.iload_n 1, 1) := by decide +kernel
theorem dX7_readFacet_67 : decode cX7_readFacet 67 = .ok (.invokevirtual 130, 3) := by decide +kernel
theorem dX7_readFacet_70 : decode cX7_readFacet 70 = .ok (.return_, 1) := by decide +kernel
theorem dX7_parse_0 : decode cX7_parse 0 = .ok (.aload_n 0, 1) := by decide +kernel
theorem dX7_parse_1 : decode cX7_parse 1 = .ok (.iconst 0, 1) := by decide +kernel
theorem dX7_parse_2 : decode cX7_parse 2 = .ok (.putfield 71, 3) := by decide +kernel
theorem dX7_parse_5 : decode cX7_parse 5 = .ok (.aload_n 0, 1) := by decide +kernel
theorem dX7_parse_6 : decode cX7_parse 6 = .ok (.iconst (-1), 1) := by decide +kernel
theorem dX7_parse_7 : decode cX7_parse 7 = .ok (.putfield 101, 3) := by decide +kernel
theorem dX7_parse_10 : decode cX7_parse 10 = .ok (.aload_n 0, 1) := by decide +kernel
theorem dX7_parse_11 : decode cX7_parse 11 = .ok (.invokevirtual 120, 3) := by decide +kernel
theorem dX7_parse_14 : decode cX7_parse 14 = .ok (.aload_n 0, 1) := by decide +kernel
theorem dX7_parse_15 : decode cX7_parse 15 = .ok (.invokevirtual 174, 3) := by decide +kernel
theorem dX7_parse_18 : decode cX7_parse 18 = .ok (.aload_n 0, 1) := by decide +kernel
theorem dX7_parse_19 : decode cX7_parse 19 = .ok (.invokevirtual 104, 3) := by decide +kernel
theorem dX7_parse_22 : decode cX7_parse 22 = .ok (.ifCond .eq 36, 3) := by decide +kernel
theorem dX7_parse_25 : decode cX7_parse 25 = .ok (.aload_n 0, 1) := by decide +kernel
theorem dX7_parse_26 : decode cX7_parse 26 = .ok (.getfield 88, 3) := by decide +kernel
theorem dX7_parse_29 : decode cX7_parse 29 = .ok (.iconst 3, 1) := by decide +kernel
theorem dX7_parse_30 : decode cX7_parse 30 = .ok (.if_icmp .ne 28, 3) := by decide +kernel
theorem dX7_parse_33 : decode cX7_parse 33 = .ok (.aload_n 0, 1) := by decide +kernel
theorem dX7_parse_34 : decode cX7_parse 34 = .ok (.getfield 9, 3) := by decide +kernel
theorem dX7_parse_37 : decode cX7_parse 37 = .ok (.aload_n 0, 1) := by decide +kernel
theorem dX7_parse_38 : decode cX7_parse 38 = .ok (.getfield 78, 3) := by decide +kernel
theorem dX7_parse_41 : decode cX7_parse 41 = .ok (.iaload, 1) := by decide +kernel
theorem dX7_parse_42 : decode cX7_parse 42 = .ok (.bipush 59, 2) := by decide +kernel
theorem dX7_parse_44 : decode cX7_parse 44 = .ok (.if_icmp .ne 14, 3) := by decide +kernel
theorem dX7_parse_47 : decode cX7_parse 47 = .ok (.aload_n 0, 1) := by decide +kernel
theorem dX7_parse_48 : decode cX7_parse 48 = .ok (.invokevirtual 120, 3) := by decide +kernel
theorem dX7_parse_51 : decode cX7_parse 51 = .ok (.aload_n 0, 1) := by decide +kernel
theorem dX7_parse_52 : decode cX7_parse 52 = .ok (.invokevirtual 177, 3) := by decide +kernel
theorem dX7_parse_55 : decode cX7_parse 55 = .ok (.goto (-37), 3) := by decide +kernel
theorem dX7_parse_58 : decode cX7_parse 58 = .ok (.aload_n 0, 1) := by decide +kernel
theorem dX7_parse_59 : decode cX7_parse 59 = .ok (.invokevirtual 104, 3) := by decide +kernel
theorem dX7_parse_62 : decode cX7_parse 62 = .ok (.ifCond .eq 14, 3) := by decide +kernel
theorem dX7_parse_65 : decode cX7_parse 65 = .ok (.aload_n 0, 1) := by decide +kernel
theorem dX7_parse_66 : decode cX7_parse 66 = .ok (.getfield 88, 3) := by decide +kernel
theorem dX7_parse_69 : decode cX7_parse 69 = .ok (.ifCond .eq 7, 3) := by decide +kernel
theorem dX7_parse_72 : decode cX7_parse 72 = .ok (.aload_n 0, 1) := by decide +kernel
theorem dX7_parse_73 : decode cX7_parse 73 = .ok (.invokevirtual 117, 3) := by decide +kernel
theorem dX7_parse_76 : decode cX7_parse 76 = .ok (.aload_n 0, 1) := by decide +kernel
theorem dX7_parse_77 : decode cX7_parse 77 = .ok (.getfield 101, 3) := by decide +kernel
theorem dX7_parse_80 : decode cX7_parse 80 = .ok (.ireturn, 1) := by decide +kernel
theorem dX7_errorPosition_0 : decode cX7_errorPosition 0 = .ok (.aload_n 0, 1) := by decide +kernel
theorem dX7_errorPosition_1 : decode cX7_errorPosition 1 = .ok (.iconst 0, 1) := by decide +kernel
theorem dX7_errorPosition_2 : decode cX7_errorPosition 2 = .ok (.putfield 52, 3) := by decide +kernel
theorem dX7_errorPosition_5 : decode cX7_errorPosition 5 = .ok (.aload_n 0, 1) := by decide +kernel
theorem dX7_errorPosition_6 : decode cX7_errorPosition 6 = .ok (.invokevirtual 180, 3) := by decide +kernel
theorem dX7_errorPosition_9 : decode cX7_errorPosition 9 = .ok (.ireturn, 1) := by decide +kernel
theorem dX7_takeMade_0 : decode cX7_takeMade 0 = .ok (.iconst 0, 1) := by decide +kernel
theorem dX7_takeMade_1 : decode cX7_takeMade 1 = .ok (.istore_n 1, 1) := by decide +kernel
theorem dX7_takeMade_2 : decode cX7_takeMade 2 = .ok (.iload_n 1, 1) := by decide +kernel
theorem dX7_takeMade_3 : decode cX7_takeMade 3 = .ok (.bipush 12, 2) := by decide +kernel
theorem dX7_takeMade_5 : decode cX7_takeMade 5 = .ok (.if_icmp .ge 37, 3) := by decide +kernel
theorem dX7_takeMade_8 : decode cX7_takeMade 8 = .ok (.aload_n 0, 1) := by decide +kernel
theorem dX7_takeMade_9 : decode cX7_takeMade 9 = .ok (.getfield 13, 3) := by decide +kernel
theorem dX7_takeMade_12 : decode cX7_takeMade 12 = .ok (.iload_n 1, 1) := by decide +kernel
theorem dX7_takeMade_13 : decode cX7_takeMade 13 = .ok (.iload_n 1, 1) := by decide +kernel
theorem dX7_takeMade_14 : decode cX7_takeMade 14 = .ok (.iconst 2, 1) := by decide +kernel
theorem dX7_takeMade_15 : decode cX7_takeMade 15 = .ok (.aload_n 0, 1) := by decide +kernel
theorem dX7_takeMade_16 : decode cX7_takeMade 16 = .ok (.getfield 16, 3) := by decide +kernel
theorem dX7_takeMade_19 : decode cX7_takeMade 19 = .ok (.iconst 1, 1) := by decide +kernel
theorem dX7_takeMade_20 : decode cX7_takeMade 20 = .ok (.iaload, 1) := by decide +kernel
theorem dX7_takeMade_21 : decode cX7_takeMade 21 = .ok (.iadd, 1) := by decide +kernel
theorem dX7_takeMade_22 : decode cX7_takeMade 22 = .ok (.if_icmp .ge 12, 3) := by decide +kernel
theorem dX7_takeMade_25 : decode cX7_takeMade 25 = .ok (.aload_n 0, 1) := by decide +kernel
theorem dX7_takeMade_26 : decode cX7_takeMade 26 = .ok (.getfield 16, 3) := by decide +kernel
theorem dX7_takeMade_29 : decode cX7_takeMade 29 = .ok (.iload_n 1, 1) := by decide +kernel
theorem dX7_takeMade_30 : decode cX7_takeMade 30 = .ok (.iaload, 1) := by decide +kernel
theorem dX7_takeMade_31 : decode cX7_takeMade 31 = .ok (.goto 4, 3) := by decide +kernel
theorem dX7_takeMade_34 : decode cX7_takeMade 34 = .ok (.iconst 0, 1) := by decide +kernel
theorem dX7_takeMade_35 : decode cX7_takeMade 35 = .ok (.iastore, 1) := by decide +kernel
theorem dX7_takeMade_36 : decode cX7_takeMade 36 = .ok (.iinc 1 1, 3) := by decide +kernel
theorem dX7_takeMade_39 : decode cX7_takeMade 39 = .ok (.goto (-37), 3) := by decide +kernel
theorem dX7_takeMade_42 : decode cX7_takeMade 42 = .ok (.aload_n 0, 1) := by decide +kernel
theorem dX7_takeMade_43 : decode cX7_takeMade 43 = .ok (.iconst 0, 1) := by decide +kernel
theorem dX7_takeMade_44 : decode cX7_takeMade 44 = .ok (.putfield 183, 3) := by decide +kernel
theorem dX7_takeMade_47 : decode cX7_takeMade 47 = .ok (.return_, 1) := by decide +kernel
theorem dX7_load_0 : decode cX7_load 0 = .ok (.aload_n 0, 1) := by decide +kernel
theorem dX7_load_1 : decode cX7_load 1 = .ok (.iconst 0, 1) := by decide +kernel
theorem dX7_load_2 : decode cX7_load 2 = .ok (.putfield 52, 3) := by decide +kernel
theorem dX7_load_5 : decode cX7_load 5 = .ok (.aload_n 0, 1) := by decide +kernel
theorem dX7_load_6 : decode cX7_load 6 = .ok (.aload_n 0, 1) := by decide +kernel
theorem dX7_load_7 : decode cX7_load 7 = .ok (.invokevirtual 180, 3) := by decide +kernel
theorem dX7_load_10 : decode cX7_load 10 = .ok (.ifCond .ge 7, 3) := by decide +kernel
theorem dX7_load_13 : decode cX7_load 13 = .ok (.iconst 1, 1) := by decide +kernel
theorem dX7_load_14 : decode cX7_load 14 = .ok (.goto 4, 3) := by decide +kernel
theorem dX7_load_17 : decode cX7_load 17 = .ok (.iconst 0, 1) := by decide +kernel
theorem dX7_load_18 : decode cX7_load 18 = .ok (.iconst 1, 1) := by decide +kernel
theorem dX7_load_19 : decode cX7_load 19 = .ok (.invokevirtual 63, 3) := by decide +kernel
theorem dX7_load_22 : decode cX7_load 22 = .ok (.ifCond .eq 5, 3) := by decide +kernel
theorem dX7_load_25 : decode cX7_load 25 = .ok (.iconst 0, 1) := by decide +kernel
theorem dX7_load_26 : decode cX7_load 26 = .ok (.ireturn, 1) := by decide +kernel
theorem dX7_load_27 : decode cX7_load 27 = .ok (.aload_n 0, 1) := by decide +kernel
theorem dX7_load_28 : decode cX7_load 28 = .ok (.invokevirtual 187, 3) := by decide +kernel
theorem dX7_load_31 : decode cX7_load 31 = .ok (.aload_n 0, 1) := by decide +kernel
theorem dX7_load_32 : decode cX7_load 32 = .ok (.iconst 0, 1) := by decide +kernel
theorem dX7_load_33 : decode cX7_load 33 = .ok (.putfield 190, 3) := by decide +kernel
theorem dX7_load_36 : decode cX7_load 36 = .ok (.aload_n 0, 1) := by decide +kernel
theorem dX7_load_37 : decode cX7_load 37 = .ok (.iconst 0, 1) := by decide +kernel
theorem dX7_load_38 : decode cX7_load 38 = .ok (.putfield 193, 3) := by decide +kernel
theorem dX7_load_41 : decode cX7_load 41 = .ok (.aload_n 0, 1) := by decide +kernel
theorem dX7_load_42 : decode cX7_load 42 = .ok (.iconst 0, 1) := by decide +kernel
theorem dX7_load_43 : decode cX7_load 43 = .ok (.putfield 60, 3) := by decide +kernel
theorem dX7_load_46 : decode cX7_load 46 = .ok (.aload_n 0, 1) := by decide +kernel
theorem dX7_load_47 : decode cX7_load 47 = .ok (.getfield 13, 3) := by decide +kernel
theorem dX7_load_50 : decode cX7_load 50 = .ok (.iconst 1, 1) := by decide +kernel
theorem dX7_load_51 : decode cX7_load 51 = .ok (.iaload, 1) := by decide +kernel
theorem dX7_load_52 : decode cX7_load 52 = .ok (.ireturn, 1) := by decide +kernel
theorem dX7_record_0 : decode cX7_record 0 = .ok (.aload_n 0, 1) := by decide +kernel
theorem dX7_record_1 : decode cX7_record 1 = .ok (.iconst 0, 1) := by decide +kernel
theorem dX7_record_2 : decode cX7_record 2 = .ok (.putfield 183, 3) := by decide +kernel
theorem dX7_record_5 : decode cX7_record 5 = .ok (.aload_n 0, 1) := by decide +kernel
theorem dX7_record_6 : decode cX7_record 6 = .ok (.getfield 190, 3) := by decide +kernel
theorem dX7_record_9 : decode cX7_record 9 = .ok (.bipush 8, 2) := by decide +kernel
theorem dX7_record_11 : decode cX7_record 11 = .ok (.if_icmp .ne 43, 3) := by decide +kernel
theorem dX7_record_14 : decode cX7_record 14 = .ok (.bipush 12, 2) := by decide +kernel
theorem dX7_record_16 : decode cX7_record 16 = .ok (.istore_n 1, 1) := by decide +kernel
theorem dX7_record_17 : decode cX7_record 17 = .ok (.iload_n 1, 1) := by decide +kernel
theorem dX7_record_18 : decode cX7_record 18 = .ok (.bipush 96, 2) := by decide +kernel
theorem dX7_record_20 : decode cX7_record 20 = .ok (.if_icmp .ge 24, 3) := by decide +kernel
theorem dX7_record_23 : decode cX7_record 23 = .ok (.aload_n 0, 1) := by decide +kernel
theorem dX7_record_24 : decode cX7_record 24 = .ok (.getfield 19, 3) := by decide +kernel
theorem dX7_record_27 : decode cX7_record 27 = .ok (.iload_n 1, 1) := by decide +kernel
theorem dX7_record_28 : decode cX7_record 28 = .ok (.bipush 12, 2) := by decide +kernel
theorem dX7_record_30 : decode cX7_record 30 = .ok (.isub, 1) := by decide +kernel
theorem dX7_record_31 : decode cX7_record 31 = .ok (.aload_n 0, 1) := by decide +kernel
theorem dX7_record_32 : decode cX7_record 32 = .ok (.getfield 19, 3) := by decide +kernel
theorem dX7_record_35 : decode cX7_record 35 = .ok (.iload_n 1, 1) := by decide +kernel
theorem dX7_record_36 : decode cX7_record 36 = .ok (.iaload, 1) := by decide +kernel
theorem dX7_record_37 : decode cX7_record 37 = .ok (.iastore, 1) := by decide +kernel
theorem dX7_record_38 : decode cX7_record 38 = .ok (.iinc 1 1, 3) := by decide +kernel
theorem dX7_record_41 : decode cX7_record 41 = .ok (.goto (-24), 3) := by decide +kernel
theorem dX7_record_44 : decode cX7_record 44 = .ok (.aload_n 0, 1) := by decide +kernel
theorem dX7_record_45 : decode cX7_record 45 = .ok (.dup, 1) := by decide +kernel
theorem dX7_record_46 : decode cX7_record 46 = .ok (.getfield 190, 3) := by decide +kernel
theorem dX7_record_49 : decode cX7_record 49 = .ok (.iconst 1, 1) := by decide +kernel
theorem dX7_record_50 : decode cX7_record 50 = .ok (.isub, 1) := by decide +kernel
theorem dX7_record_51 : decode cX7_record 51 = .ok (.putfield 190, 3) := by decide +kernel
theorem dX7_record_54 : decode cX7_record 54 = .ok (.iconst 0, 1) := by decide +kernel
theorem dX7_record_55 : decode cX7_record 55 = .ok (.istore_n 1, 1) := by decide +kernel
theorem dX7_record_56 : decode cX7_record 56 = .ok (.iload_n 1, 1) := by decide +kernel
theorem dX7_record_57 : decode cX7_record 57 = .ok (.bipush 12, 2) := by decide +kernel
theorem dX7_record_59 : decode cX7_record 59 = .ok (.if_icmp .ge 29, 3) := by decide +kernel
theorem dX7_record_62 : decode cX7_record 62 = .ok (.aload_n 0, 1) := by decide +kernel
theorem dX7_record_63 : decode cX7_record 63 = .ok (.getfield 19, 3) := by decide +kernel
theorem dX7_record_66 : decode cX7_record 66 = .ok (.bipush 12, 2) := by decide +kernel
theorem dX7_record_68 : decode cX7_record 68 = .ok (.aload_n 0, 1) := by decide +kernel
theorem dX7_record_69 : decode cX7_record 69 = .ok (.getfield 190, 3) := by decide +kernel
theorem dX7_record_72 : decode cX7_record 72 = .ok (.imul, 1) := by decide +kernel
theorem dX7_record_73 : decode cX7_record 73 = .ok (.iload_n 1, 1) := by decide +kernel
theorem dX7_record_74 : decode cX7_record 74 = .ok (.iadd, 1) := by decide +kernel
theorem dX7_record_75 : decode cX7_record 75 = .ok (.aload_n 0, 1) := by decide +kernel
theorem dX7_record_76 : decode cX7_record 76 = .ok (.getfield 13, 3) := by decide +kernel
theorem dX7_record_79 : decode cX7_record 79 = .ok (.iload_n 1, 1) := by decide +kernel
theorem dX7_record_80 : decode cX7_record 80 = .ok (.iaload, 1) := by decide +kernel
theorem dX7_record_81 : decode cX7_record 81 = .ok (.iastore, 1) := by decide +kernel
theorem dX7_record_82 : decode cX7_record 82 = .ok (.iinc 1 1, 3) := by decide +kernel
theorem dX7_record_85 : decode cX7_record 85 = .ok (.goto (-29), 3) := by decide +kernel
theorem dX7_record_88 : decode cX7_record 88 = .ok (.aload_n 0, 1) := by decide +kernel
theorem dX7_record_89 : decode cX7_record 89 = .ok (.dup, 1) := by decide +kernel
theorem dX7_record_90 : decode cX7_record 90 = .ok (.getfield 190, 3) := by decide +kernel
theorem dX7_record_93 : decode cX7_record 93 = .ok (.iconst 1, 1) := by decide +kernel
theorem dX7_record_94 : decode cX7_record 94 = .ok (.iadd, 1) := by decide +kernel
theorem dX7_record_95 : decode cX7_record 95 = .ok (.putfield 190, 3) := by decide +kernel
theorem dX7_record_98 : decode cX7_record 98 = .ok (.return_, 1) := by decide +kernel
theorem dX7_undo_0 : decode cX7_undo 0 = .ok (.aload_n 0, 1) := by decide +kernel
theorem dX7_undo_1 : decode cX7_undo 1 = .ok (.iconst 0, 1) := by decide +kernel
theorem dX7_undo_2 : decode cX7_undo 2 = .ok (.putfield 52, 3) := by decide +kernel
theorem dX7_undo_5 : decode cX7_undo 5 = .ok (.aload_n 0, 1) := by decide +kernel
theorem dX7_undo_6 : decode cX7_undo 6 = .ok (.aload_n 0, 1) := by decide +kernel
theorem dX7_undo_7 : decode cX7_undo 7 = .ok (.getfield 190, 3) := by decide +kernel
theorem dX7_undo_10 : decode cX7_undo 10 = .ok (.ifCond .le 7, 3) := by decide +kernel
theorem dX7_undo_13 : decode cX7_undo 13 = .ok (.iconst 1, 1) := by decide +kernel
theorem dX7_undo_14 : decode cX7_undo 14 = .ok (.goto 4, 3) := by decide +kernel
theorem dX7_undo_17 : decode cX7_undo 17 = .ok (.iconst 0, 1) := by decide +kernel
theorem dX7_undo_18 : decode cX7_undo 18 = .ok (.iconst 1, 1) := by decide +kernel
theorem dX7_undo_19 : decode cX7_undo 19 = .ok (.invokevirtual 63, 3) := by decide +kernel
theorem dX7_undo_22 : decode cX7_undo 22 = .ok (.ifCond .eq 5, 3) := by decide +kernel
theorem dX7_undo_25 : decode cX7_undo 25 = .ok (.iconst 0, 1) := by decide +kernel
theorem dX7_undo_26 : decode cX7_undo 26 = .ok (.ireturn, 1) := by decide +kernel
theorem dX7_undo_27 : decode cX7_undo 27 = .ok (.aload_n 0, 1) := by decide +kernel
theorem dX7_undo_28 : decode cX7_undo 28 = .ok (.dup, 1) := by decide +kernel
theorem dX7_undo_29 : decode cX7_undo 29 = .ok (.getfield 190, 3) := by decide +kernel
theorem dX7_undo_32 : decode cX7_undo 32 = .ok (.iconst 1, 1) := by decide +kernel
theorem dX7_undo_33 : decode cX7_undo 33 = .ok (.isub, 1) := by decide +kernel
theorem dX7_undo_34 : decode cX7_undo 34 = .ok (.putfield 190, 3) := by decide +kernel
theorem dX7_undo_37 : decode cX7_undo 37 = .ok (.aload_n 0, 1) := by decide +kernel
theorem dX7_undo_38 : decode cX7_undo 38 = .ok (.iconst 0, 1) := by decide +kernel
theorem dX7_undo_39 : decode cX7_undo 39 = .ok (.putfield 183, 3) := by decide +kernel
theorem dX7_undo_42 : decode cX7_undo 42 = .ok (.iconst 0, 1) := by decide +kernel
theorem dX7_undo_43 : decode cX7_undo 43 = .ok (.istore_n 1, 1) := by decide +kernel
theorem dX7_undo_44 : decode cX7_undo 44 = .ok (.iload_n 1, 1) := by decide +kernel
theorem dX7_undo_45 : decode cX7_undo 45 = .ok (.bipush 12, 2) := by decide +kernel
theorem dX7_undo_47 : decode cX7_undo 47 = .ok (.if_icmp .ge 29, 3) := by decide +kernel
theorem dX7_undo_50 : decode cX7_undo 50 = .ok (.aload_n 0, 1) := by decide +kernel
theorem dX7_undo_51 : decode cX7_undo 51 = .ok (.getfield 13, 3) := by decide +kernel
theorem dX7_undo_54 : decode cX7_undo 54 = .ok (.iload_n 1, 1) := by decide +kernel
theorem dX7_undo_55 : decode cX7_undo 55 = .ok (.aload_n 0, 1) := by decide +kernel
theorem dX7_undo_56 : decode cX7_undo 56 = .ok (.getfield 19, 3) := by decide +kernel
theorem dX7_undo_59 : decode cX7_undo 59 = .ok (.bipush 12, 2) := by decide +kernel
theorem dX7_undo_61 : decode cX7_undo 61 = .ok (.aload_n 0, 1) := by decide +kernel
theorem dX7_undo_62 : decode cX7_undo 62 = .ok (.getfield 190, 3) := by decide +kernel
theorem dX7_undo_65 : decode cX7_undo 65 = .ok (.imul, 1) := by decide +kernel
theorem dX7_undo_66 : decode cX7_undo 66 = .ok (.iload_n 1, 1) := by decide +kernel
theorem dX7_undo_67 : decode cX7_undo 67 = .ok (.iadd, 1) := by decide +kernel
theorem dX7_undo_68 : decode cX7_undo 68 = .ok (.iaload, 1) := by decide +kernel
theorem dX7_undo_69 : decode cX7_undo 69 = .ok (.iastore, 1) := by decide +kernel
theorem dX7_undo_70 : decode cX7_undo 70 = .ok (.iinc 1 1, 3) := by decide +kernel
theorem dX7_undo_73 : decode cX7_undo 73 = .ok (.goto (-29), 3) := by decide +kernel
theorem dX7_undo_76 : decode cX7_undo 76 = .ok (.aload_n 0, 1) := by decide +kernel
theorem dX7_undo_77 : decode cX7_undo 77 = .ok (.getfield 190, 3) := by decide +kernel
theorem dX7_undo_80 : decode cX7_undo 80 = .ok (.ireturn, 1) := by decide +kernel
theorem dX7_undoCount_0 : decode cX7_undoCount 0 = .ok (.aload_n 0, 1) := by decide +kernel
theorem dX7_undoCount_1 : decode cX7_undoCount 1 = .ok (.iconst 0, 1) := by decide +kernel
theorem dX7_undoCount_2 : decode cX7_undoCount 2 = .ok (.putfield 52, 3) := by decide +kernel
theorem dX7_undoCount_5 : decode cX7_undoCount 5 = .ok (.aload_n 0, 1) := by decide +kernel
theorem dX7_undoCount_6 : decode cX7_undoCount 6 = .ok (.getfield 190, 3) := by decide +kernel
theorem dX7_undoCount_9 : decode cX7_undoCount 9 = .ok (.ireturn, 1) := by decide +kernel
theorem dX7_save_0 : decode cX7_save 0 = .ok (.aload_n 0, 1) := by decide +kernel
theorem dX7_save_1 : decode cX7_save 1 = .ok (.iconst 0, 1) := by decide +kernel
theorem dX7_save_2 : decode cX7_save 2 = .ok (.putfield 52, 3) := by decide +kernel
theorem dX7_save_5 : decode cX7_save 5 = .ok (.iconst 0, 1) := by decide +kernel
theorem dX7_save_6 : decode cX7_save 6 = .ok (.istore_n 1, 1) := by decide +kernel
theorem dX7_save_7 : decode cX7_save 7 = .ok (.iload_n 1, 1) := by decide +kernel
theorem dX7_save_8 : decode cX7_save 8 = .ok (.bipush 12, 2) := by decide +kernel
theorem dX7_save_10 : decode cX7_save 10 = .ok (.if_icmp .ge 21, 3) := by decide +kernel
theorem dX7_save_13 : decode cX7_save 13 = .ok (.aload_n 0, 1) := by decide +kernel
theorem dX7_save_14 : decode cX7_save 14 = .ok (.getfield 22, 3) := by decide +kernel
theorem dX7_save_17 : decode cX7_save 17 = .ok (.iload_n 1, 1) := by decide +kernel
theorem dX7_save_18 : decode cX7_save 18 = .ok (.aload_n 0, 1) := by decide +kernel
theorem dX7_save_19 : decode cX7_save 19 = .ok (.getfield 13, 3) := by decide +kernel
theorem dX7_save_22 : decode cX7_save 22 = .ok (.iload_n 1, 1) := by decide +kernel
theorem dX7_save_23 : decode cX7_save 23 = .ok (.iaload, 1) := by decide +kernel
theorem dX7_save_24 : decode cX7_save 24 = .ok (.iastore, 1) := by decide +kernel
theorem dX7_save_25 : decode cX7_save 25 = .ok (.iinc 1 1, 3) := by decide +kernel
theorem dX7_save_28 : decode cX7_save 28 = .ok (.goto (-21), 3) := by decide +kernel
theorem dX7_save_31 : decode cX7_save 31 = .ok (.aload_n 0, 1) := by decide +kernel
theorem dX7_save_32 : decode cX7_save 32 = .ok (.iconst 1, 1) := by decide +kernel
theorem dX7_save_33 : decode cX7_save 33 = .ok (.putfield 193, 3) := by decide +kernel
theorem dX7_save_36 : decode cX7_save 36 = .ok (.aload_n 0, 1) := by decide +kernel
theorem dX7_save_37 : decode cX7_save 37 = .ok (.getfield 13, 3) := by decide +kernel
theorem dX7_save_40 : decode cX7_save 40 = .ok (.iconst 0, 1) := by decide +kernel
theorem dX7_save_41 : decode cX7_save 41 = .ok (.iaload, 1) := by decide +kernel
theorem dX7_save_42 : decode cX7_save 42 = .ok (.ireturn, 1) := by decide +kernel
theorem dX7_restore_0 : decode cX7_restore 0 = .ok (.aload_n 0, 1) := by decide +kernel
theorem dX7_restore_1 : decode cX7_restore 1 = .ok (.iconst 0, 1) := by decide +kernel
theorem dX7_restore_2 : decode cX7_restore 2 = .ok (.putfield 52, 3) := by decide +kernel
theorem dX7_restore_5 : decode cX7_restore 5 = .ok (.aload_n 0, 1) := by decide +kernel
theorem dX7_restore_6 : decode cX7_restore 6 = .ok (.aload_n 0, 1) := by decide +kernel
theorem dX7_restore_7 : decode cX7_restore 7 = .ok (.getfield 193, 3) := by decide +kernel
theorem dX7_restore_10 : decode cX7_restore 10 = .ok (.iconst 1, 1) := by decide +kernel
theorem dX7_restore_11 : decode cX7_restore 11 = .ok (.invokevirtual 63, 3) := by decide +kernel
theorem dX7_restore_14 : decode cX7_restore 14 = .ok (.ifCond .eq 5, 3) := by decide +kernel
theorem dX7_restore_17 : decode cX7_restore 17 = .ok (.iconst 0, 1) := by decide +kernel
theorem dX7_restore_18 : decode cX7_restore 18 = .ok (.ireturn, 1) := by decide +kernel
theorem dX7_restore_19 : decode cX7_restore 19 = .ok (.iconst 0, 1) := by decide +kernel
theorem dX7_restore_20 : decode cX7_restore 20 = .ok (.istore_n 1, 1) := by decide +kernel
theorem dX7_restore_21 : decode cX7_restore 21 = .ok (.iload_n 1, 1) := by decide +kernel
theorem dX7_restore_22 : decode cX7_restore 22 = .ok (.bipush 12, 2) := by decide +kernel
theorem dX7_restore_24 : decode cX7_restore 24 = .ok (.if_icmp .ge 21, 3) := by decide +kernel
theorem dX7_restore_27 : decode cX7_restore 27 = .ok (.aload_n 0, 1) := by decide +kernel
theorem dX7_restore_28 : decode cX7_restore 28 = .ok (.getfield 13, 3) := by decide +kernel
theorem dX7_restore_31 : decode cX7_restore 31 = .ok (.iload_n 1, 1) := by decide +kernel
theorem dX7_restore_32 : decode cX7_restore 32 = .ok (.aload_n 0, 1) := by decide +kernel
theorem dX7_restore_33 : decode cX7_restore 33 = .ok (.getfield 22, 3) := by decide +kernel
theorem dX7_restore_36 : decode cX7_restore 36 = .ok (.iload_n 1, 1) := by decide +kernel
theorem dX7_restore_37 : decode cX7_restore 37 = .ok (.iaload, 1) := by decide +kernel
theorem dX7_restore_38 : decode cX7_restore 38 = .ok (.iastore, 1) := by decide +kernel
theorem dX7_restore_39 : decode cX7_restore 39 = .ok (.iinc 1 1, 3) := by decide +kernel
theorem dX7_restore_42 : decode cX7_restore 42 = .ok (.goto (-21), 3) := by decide +kernel
theorem dX7_restore_45 : decode cX7_restore 45 = .ok (.aload_n 0, 1) := by decide +kernel
theorem dX7_restore_46 : decode cX7_restore 46 = .ok (.iconst 0, 1) := by decide +kernel
theorem dX7_restore_47 : decode cX7_restore 47 = .ok (.putfield 183, 3) := by decide +kernel
theorem dX7_restore_50 : decode cX7_restore 50 = .ok (.aload_n 0, 1) := by decide +kernel
theorem dX7_restore_51 : decode cX7_restore 51 = .ok (.iconst 0, 1) := by decide +kernel
theorem dX7_restore_52 : decode cX7_restore 52 = .ok (.putfield 190, 3) := by decide +kernel
theorem dX7_restore_55 : decode cX7_restore 55 = .ok (.aload_n 0, 1) := by decide +kernel
theorem dX7_restore_56 : decode cX7_restore 56 = .ok (.getfield 13, 3) := by decide +kernel
theorem dX7_restore_59 : decode cX7_restore 59 = .ok (.iconst 0, 1) := by decide +kernel
theorem dX7_restore_60 : decode cX7_restore 60 = .ok (.iaload, 1) := by decide +kernel
theorem dX7_restore_61 : decode cX7_restore 61 = .ok (.ireturn, 1) := by decide +kernel
theorem dX7_all_0 : decode cX7_all 0 = .ok (.aload_n 0, 1) := by decide +kernel
theorem dX7_all_1 : decode cX7_all 1 = .ok (.getfield 13, 3) := by decide +kernel
theorem dX7_all_4 : decode cX7_all 4 = .ok (.iconst 0, 1) := by decide +kernel
theorem dX7_all_5 : decode cX7_all 5 = .ok (.iaload, 1) := by decide +kernel
theorem dX7_all_6 : decode cX7_all 6 = .ok (.invokestatic 127, 3) := by decide +kernel
theorem dX7_all_9 : decode cX7_all 9 = .ok (.ireturn, 1) := by decide +kernel
theorem dX7_closureOf_0 : decode cX7_closureOf 0 = .ok (.aload_n 0, 1) := by decide +kernel
theorem dX7_closureOf_1 : decode cX7_closureOf 1 = .ok (.invokevirtual 196, 3) := by decide +kernel
theorem dX7_closureOf_4 : decode cX7_closureOf 4 = .ok (.istore_n 2, 1) := by decide +kernel
theorem dX7_closureOf_5 : decode cX7_closureOf 5 = .ok (.iconst 0, 1) := by decide +kernel
theorem dX7_closureOf_6 : decode cX7_closureOf 6 = .ok (.istore_n 3, 1) := by decide +kernel
theorem dX7_closureOf_7 : decode cX7_closureOf 7 = .ok (.iload_n 3, 1) := by decide +kernel
theorem dX7_closureOf_8 : decode cX7_closureOf 8 = .ok (.aload_n 0, 1) := by decide +kernel
theorem dX7_closureOf_9 : decode cX7_closureOf 9 = .ok (.getfield 13, 3) := by decide +kernel
theorem dX7_closureOf_12 : decode cX7_closureOf 12 = .ok (.iconst 1, 1) := by decide +kernel
theorem dX7_closureOf_13 : decode cX7_closureOf 13 = .ok (.iaload, 1) := by decide +kernel
theorem dX7_closureOf_14 : decode cX7_closureOf 14 = .ok (.if_icmp .ge 39, 3) := by decide +kernel
theorem dX7_closureOf_17 : decode cX7_closureOf 17 = .ok (.iload_n 2, 1) := by decide +kernel
theorem dX7_closureOf_18 : decode cX7_closureOf 18 = .ok (.aload_n 0, 1) := by decide +kernel
theorem dX7_closureOf_19 : decode cX7_closureOf 19 = .ok (.getfield 13, 3) := by decide +kernel
theorem dX7_closureOf_22 : decode cX7_closureOf 22 = .ok (.iconst 2, 1) := by decide +kernel
theorem dX7_closureOf_23 : decode cX7_closureOf 23 = .ok (.iload_n 3, 1) := by decide +kernel
theorem dX7_closureOf_24 : decode cX7_closureOf 24 = .ok (.iadd, 1) := by decide +kernel
theorem dX7_closureOf_25 : decode cX7_closureOf 25 = .ok (.iaload, 1) := by decide +kernel
theorem dX7_closureOf_26 : decode cX7_closureOf 26 = .ok (.iload_n 1, 1) := by decide +kernel
theorem dX7_closureOf_27 : decode cX7_closureOf 27 = .ok (.invokestatic 199, 3) := by decide +kernel
theorem dX7_closureOf_30 : decode cX7_closureOf 30 = .ok (.ifCond .eq 14, 3) := by decide +kernel
theorem dX7_closureOf_33 : decode cX7_closureOf 33 = .ok (.aload_n 0, 1) := by decide +kernel
theorem dX7_closureOf_34 : decode cX7_closureOf 34 = .ok (.getfield 13, 3) := by decide +kernel
theorem dX7_closureOf_37 : decode cX7_closureOf 37 = .ok (.iconst 2, 1) := by decide +kernel
theorem dX7_closureOf_38 : decode cX7_closureOf 38 = .ok (.iload_n 3, 1) := by decide +kernel
theorem dX7_closureOf_39 : decode cX7_closureOf 39 = .ok (.iadd, 1) := by decide +kernel
theorem dX7_closureOf_40 : decode cX7_closureOf 40 = .ok (.iaload, 1) := by decide +kernel
theorem dX7_closureOf_41 : decode cX7_closureOf 41 = .ok (.goto 4, 3) := by decide +kernel
theorem dX7_closureOf_44 : decode cX7_closureOf 44 = .ok (.iload_n 2, 1) := by decide +kernel
theorem dX7_closureOf_45 : decode cX7_closureOf 45 = .ok (.iand, 1) := by decide +kernel
theorem dX7_closureOf_46 : decode cX7_closureOf 46 = .ok (.istore_n 2, 1) := by decide +kernel
theorem dX7_closureOf_47 : decode cX7_closureOf 47 = .ok (.iinc 3 1, 3) := by decide +kernel
theorem dX7_closureOf_50 : decode cX7_closureOf 50 = .ok (.goto (-43), 3) := by decide +kernel
theorem dX7_closureOf_53 : decode cX7_closureOf 53 = .ok (.iload_n 2, 1) := by decide +kernel
theorem dX7_closureOf_54 : decode cX7_closureOf 54 = .ok (.ireturn, 1) := by decide +kernel
theorem dX7_isCover_0 : decode cX7_isCover 0 = .ok (.iload_n 1, 1) := by decide +kernel
theorem dX7_isCover_1 : decode cX7_isCover 1 = .ok (.iload_n 2, 1) := by decide +kernel
theorem dX7_isCover_2 : decode cX7_isCover 2 = .ok (.if_icmp .eq 11, 3) := by decide +kernel
theorem dX7_isCover_5 : decode cX7_isCover 5 = .ok (.iload_n 1, 1) := by decide +kernel
theorem dX7_isCover_6 : decode cX7_isCover 6 = .ok (.iload_n 2, 1) := by decide +kernel
theorem dX7_isCover_7 : decode cX7_isCover 7 = .ok (.invokestatic 199, 3) := by decide +kernel
theorem dX7_isCover_10 : decode cX7_isCover 10 = .ok (.ifCond .ne 5, 3) := by decide +kernel
theorem dX7_isCover_13 : decode cX7_isCover 13 = .ok (.iconst 0, 1) := by decide +kernel
theorem dX7_isCover_14 : decode cX7_isCover 14 = .ok (.ireturn, 1) := by decide +kernel
theorem dX7_isCover_15 : decode cX7_isCover 15 = .ok (.iconst 0, 1) := by decide +kernel
theorem dX7_isCover_16 : decode cX7_isCover 16 = .ok (.istore_n 3, 1) := by decide +kernel
theorem dX7_isCover_17 : decode cX7_isCover 17 = .ok (.iload_n 3, 1) := by decide +kernel
theorem dX7_isCover_18 : decode cX7_isCover 18 = .ok (.bipush 8, 2) := by decide +kernel
theorem dX7_isCover_20 : decode cX7_isCover 20 = .ok (.if_icmp .ge 37, 3) := by decide +kernel
theorem dX7_isCover_23 : decode cX7_isCover 23 = .ok (.iload_n 1, 1) := by decide +kernel
theorem dX7_isCover_24 : decode cX7_isCover 24 = .ok (.iload_n 2, 1) := by decide +kernel
theorem dX7_isCover_25 : decode cX7_isCover 25 = .ok (.iconst (-1), 1) := by decide +kernel
theorem dX7_isCover_26 : decode cX7_isCover 26 = .ok (.ixor, 1) := by decide +kernel
theorem dX7_isCover_27 : decode cX7_isCover 27 = .ok (.iand, 1) := by decide +kernel
theorem dX7_isCover_28 : decode cX7_isCover 28 = .ok (.iload_n 3, 1) := by decide +kernel
theorem dX7_isCover_29 : decode cX7_isCover 29 = .ok (.invokestatic 165, 3) := by decide +kernel
theorem dX7_isCover_32 : decode cX7_isCover 32 = .ok (.ifCond .eq 19, 3) := by decide +kernel
theorem dX7_isCover_35 : decode cX7_isCover 35 = .ok (.aload_n 0, 1) := by decide +kernel
theorem dX7_isCover_36 : decode cX7_isCover 36 = .ok (.getfield 25, 3) := by decide +kernel
theorem dX7_isCover_39 : decode cX7_isCover 39 = .ok (.iload_n 2, 1) := by decide +kernel
theorem dX7_isCover_40 : decode cX7_isCover 40 = .ok (.iconst 1, 1) := by decide +kernel
theorem dX7_isCover_41 : decode cX7_isCover 41 = .ok (.iload_n 3, 1) := by decide +kernel
theorem dX7_isCover_42 : decode cX7_isCover 42 = .ok (.ishl, 1) := by decide +kernel
theorem dX7_isCover_43 : decode cX7_isCover 43 = .ok (.ior, 1) := by decide +kernel
theorem dX7_isCover_44 : decode cX7_isCover 44 = .ok (.iaload, 1) := by decide +kernel
theorem dX7_isCover_45 : decode cX7_isCover 45 = .ok (.iload_n 1, 1) := by decide +kernel
theorem dX7_isCover_46 : decode cX7_isCover 46 = .ok (.if_icmp .eq 5, 3) := by decide +kernel
theorem dX7_isCover_49 : decode cX7_isCover 49 = .ok (.iconst 0, 1) := by decide +kernel
theorem dX7_isCover_50 : decode cX7_isCover 50 = .ok (.ireturn, 1) := by decide +kernel
theorem dX7_isCover_51 : decode cX7_isCover 51 = .ok (.iinc 3 1, 3) := by decide +kernel
theorem dX7_isCover_54 : decode cX7_isCover 54 = .ok (.goto (-37), 3) := by decide +kernel
theorem dX7_isCover_57 : decode cX7_isCover 57 = .ok (.iconst 1, 1) := by decide +kernel
theorem dX7_isCover_58 : decode cX7_isCover 58 = .ok (.ireturn, 1) := by decide +kernel
theorem dX7_layRank_0 : decode cX7_layRank 0 = .ok (.iconst 0, 1) := by decide +kernel
theorem dX7_layRank_1 : decode cX7_layRank 1 = .ok (.istore_n 2, 1) := by decide +kernel
theorem dX7_layRank_2 : decode cX7_layRank 2 = .ok (.iconst 0, 1) := by decide +kernel
theorem dX7_layRank_3 : decode cX7_layRank 3 = .ok (.istore_n 3, 1) := by decide +kernel
theorem dX7_layRank_4 : decode cX7_layRank 4 = .ok (.iload_n 3, 1) := by decide +kernel
theorem dX7_layRank_5 : decode cX7_layRank 5 = .ok (.iload_n 1, 1) := by decide +kernel
theorem dX7_layRank_6 : decode cX7_layRank 6 = .ok (.if_icmp .ge 41, 3) := by decide +kernel
theorem dX7_layRank_9 : decode cX7_layRank 9 = .ok (.aload_n 0, 1) := by decide +kernel
theorem dX7_layRank_10 : decode cX7_layRank 10 = .ok (.getfield 34, 3) := by decide +kernel
theorem dX7_layRank_13 : decode cX7_layRank 13 = .ok (.iload_n 3, 1) := by decide +kernel
theorem dX7_layRank_14 : decode cX7_layRank 14 = .ok (.iaload, 1) := by decide +kernel
theorem dX7_layRank_15 : decode cX7_layRank 15 = .ok (.iconst (-1), 1) := by decide +kernel
theorem dX7_layRank_16 : decode cX7_layRank 16 = .ok (.if_icmp .eq 25, 3) := by decide +kernel
theorem dX7_layRank_19 : decode cX7_layRank 19 = .ok (.aload_n 0, 1) := by decide +kernel
theorem dX7_layRank_20 : decode cX7_layRank 20 = .ok (.iload_n 1, 1) := by decide +kernel
theorem dX7_layRank_21 : decode cX7_layRank 21 = .ok (.iload_n 3, 1) := by decide +kernel
theorem dX7_layRank_22 : decode cX7_layRank 22 = .ok (.invokevirtual 202, 3) := by decide +kernel
theorem dX7_layRank_25 : decode cX7_layRank 25 = .ok (.ifCond .eq 16, 3) := by decide +kernel
theorem dX7_layRank_28 : decode cX7_layRank 28 = .ok (.iload_n 2, 1) := by decide +kernel
theorem dX7_layRank_29 : decode cX7_layRank 29 = .ok (.aload_n 0, 1) := by decide +kernel
theorem dX7_layRank_30 : decode cX7_layRank 30 = .ok (.getfield 31, 3) := by decide +kernel
theorem dX7_layRank_33 : decode cX7_layRank 33 = .ok (.iload_n 3, 1) := by decide +kernel
theorem dX7_layRank_34 : decode cX7_layRank 34 = .ok (.iaload, 1) := by decide +kernel
theorem dX7_layRank_35 : decode cX7_layRank 35 = .ok (.iconst 1, 1) := by decide +kernel
theorem dX7_layRank_36 : decode cX7_layRank 36 = .ok (.iadd, 1) := by decide +kernel
theorem dX7_layRank_37 : decode cX7_layRank 37 = .ok (.invokestatic 205, 3) := by decide +kernel
theorem dX7_layRank_40 : decode cX7_layRank 40 = .ok (.istore_n 2, 1) := by decide +kernel
theorem dX7_layRank_41 : decode cX7_layRank 41 = .ok (.iinc 3 1, 3) := by decide +kernel
theorem dX7_layRank_44 : decode cX7_layRank 44 = .ok (.goto (-40), 3) := by decide +kernel
theorem dX7_layRank_47 : decode cX7_layRank 47 = .ok (.aload_n 0, 1) := by decide +kernel
theorem dX7_layRank_48 : decode cX7_layRank 48 = .ok (.getfield 31, 3) := by decide +kernel
theorem dX7_layRank_51 : decode cX7_layRank 51 = .ok (.iload_n 1, 1) := by decide +kernel
theorem dX7_layRank_52 : decode cX7_layRank 52 = .ok (.iload_n 2, 1) := by decide +kernel
theorem dX7_layRank_53 : decode cX7_layRank 53 = .ok (.iastore, 1) := by decide +kernel
theorem dX7_layRank_54 : decode cX7_layRank 54 = .ok (.return_, 1) := by decide +kernel
theorem dX7_lay_0 : decode cX7_lay 0 = .ok (.aload_n 0, 1) := by decide +kernel
theorem dX7_lay_1 : decode cX7_lay 1 = .ok (.getfield 183, 3) := by decide +kernel
theorem dX7_lay_4 : decode cX7_lay 4 = .ok (.ifCond .eq 4, 3) := by decide +kernel
theorem dX7_lay_7 : decode cX7_lay 7 = .ok (.return_, 1) := by decide +kernel
theorem dX7_lay_8 : decode cX7_lay 8 = .ok (.aload_n 0, 1) := by decide +kernel
theorem dX7_lay_9 : decode cX7_lay 9 = .ok (.iconst 1, 1) := by decide +kernel
theorem dX7_lay_10 : decode cX7_lay 10 = .ok (.putfield 183, 3) := by decide +kernel
theorem dX7_lay_13 : decode cX7_lay 13 = .ok (.iconst 0, 1) := by decide +kernel
theorem dX7_lay_14 : decode cX7_lay 14 = .ok (.istore_n 1, 1) := by decide +kernel
theorem dX7_lay_15 : decode cX7_lay 15 = .ok (.iload_n 1, 1) := by decide +kernel
theorem dX7_lay_16 : decode cX7_lay 16 = .ok (.aload_n 0, 1) := by decide +kernel
theorem dX7_lay_17 : decode cX7_lay 17 = .ok (.invokevirtual 196, 3) := by decide +kernel
theorem dX7_lay_20 : decode cX7_lay 20 = .ok (.if_icmp .gt 41, 3) := by decide +kernel
theorem dX7_lay_23 : decode cX7_lay 23 = .ok (.aload_n 0, 1) := by decide +kernel
theorem dX7_lay_24 : decode cX7_lay 24 = .ok (.getfield 25, 3) := by decide +kernel
theorem dX7_lay_27 : decode cX7_lay 27 = .ok (.iload_n 1, 1) := by decide +kernel
theorem dX7_lay_28 : decode cX7_lay 28 = .ok (.aload_n 0, 1) := by decide +kernel
theorem dX7_lay_29 : decode cX7_lay 29 = .ok (.iload_n 1, 1) := by decide +kernel
theorem dX7_lay_30 : decode cX7_lay 30 = .ok (.invokevirtual 208, 3) := by decide +kernel
theorem dX7_lay_33 : decode cX7_lay 33 = .ok (.iastore, 1) := by decide +kernel
theorem dX7_lay_34 : decode cX7_lay 34 = .ok (.aload_n 0, 1) := by decide +kernel
theorem dX7_lay_35 : decode cX7_lay 35 = .ok (.getfield 34, 3) := by decide +kernel
theorem dX7_lay_38 : decode cX7_lay 38 = .ok (.iload_n 1, 1) := by decide +kernel
theorem dX7_lay_39 : decode cX7_lay 39 = .ok (.aload_n 0, 1) := by decide +kernel
theorem dX7_lay_40 : decode cX7_lay 40 = .ok (.getfield 25, 3) := by decide +kernel
theorem dX7_lay_43 : decode cX7_lay 43 = .ok (.iload_n 1, 1) := by decide +kernel
theorem dX7_lay_44 : decode cX7_lay 44 = .ok (.iaload, 1) := by decide +kernel
theorem dX7_lay_45 : decode cX7_lay 45 = .ok (.iload_n 1, 1) := by decide +kernel
theorem dX7_lay_46 : decode cX7_lay 46 = .ok (.if_icmp .ne 7, 3) := by decide +kernel
theorem dX7_lay_49 : decode cX7_lay 49 = .ok (.iconst 0, 1) := by decide +kernel
theorem dX7_lay_50 : decode cX7_lay 50 = .ok (.goto 4, 3) := by decide +kernel
theorem dX7_lay_53 : decode cX7_lay 53 = .ok (.iconst (-1), 1) := by decide +kernel
theorem dX7_lay_54 : decode cX7_lay 54 = .ok (.iastore, 1) := by decide +kernel
theorem dX7_lay_55 : decode cX7_lay 55 = .ok (.iinc 1 1, 3) := by decide +kernel
theorem dX7_lay_58 : decode cX7_lay 58 = .ok (.goto (-43), 3) := by decide +kernel
theorem dX7_lay_61 : decode cX7_lay 61 = .ok (.iconst 0, 1) := by decide +kernel
theorem dX7_lay_62 : decode cX7_lay 62 = .ok (.istore_n 1, 1) := by decide +kernel
theorem dX7_lay_63 : decode cX7_lay 63 = .ok (.iload_n 1, 1) := by decide +kernel
theorem dX7_lay_64 : decode cX7_lay 64 = .ok (.aload_n 0, 1) := by decide +kernel
theorem dX7_lay_65 : decode cX7_lay 65 = .ok (.invokevirtual 196, 3) := by decide +kernel
theorem dX7_lay_68 : decode cX7_lay 68 = .ok (.if_icmp .gt 24, 3) := by decide +kernel
theorem dX7_lay_71 : decode cX7_lay 71 = .ok (.aload_n 0, 1) := by decide +kernel
theorem dX7_lay_72 : decode cX7_lay 72 = .ok (.getfield 34, 3) := by decide +kernel
theorem dX7_lay_75 : decode cX7_lay 75 = .ok (.iload_n 1, 1) := by decide +kernel
theorem dX7_lay_76 : decode cX7_lay 76 = .ok (.iaload, 1) := by decide +kernel
theorem dX7_lay_77 : decode cX7_lay 77 = .ok (.iconst (-1), 1) := by decide +kernel
theorem dX7_lay_78 : decode cX7_lay 78 = .ok (.if_icmp .eq 8, 3) := by decide +kernel
theorem dX7_lay_81 : decode cX7_lay 81 = .ok (.aload_n 0, 1) := by decide +kernel
theorem dX7_lay_82 : decode cX7_lay 82 = .ok (.iload_n 1, 1) := by decide +kernel
theorem dX7_lay_83 : decode cX7_lay 83 = .ok (.invokevirtual 211, 3) := by decide +kernel
theorem dX7_lay_86 : decode cX7_lay 86 = .ok (.iinc 1 1, 3) := by decide +kernel
theorem dX7_lay_89 : decode cX7_lay 89 = .ok (.goto (-26), 3) := by decide +kernel
theorem dX7_lay_92 : decode cX7_lay 92 = .ok (.aload_n 0, 1) := by decide +kernel
theorem dX7_lay_93 : decode cX7_lay 93 = .ok (.iconst 0, 1) := by decide +kernel
theorem dX7_lay_94 : decode cX7_lay 94 = .ok (.putfield 214, 3) := by decide +kernel
theorem dX7_lay_97 : decode cX7_lay 97 = .ok (.iconst 0, 1) := by decide +kernel
theorem dX7_lay_98 : decode cX7_lay 98 = .ok (.istore_n 1, 1) := by decide +kernel
theorem dX7_lay_99 : decode cX7_lay 99 = .ok (.iload_n 1, 1) := by decide +kernel
theorem dX7_lay_100 : decode cX7_lay 100 = .ok (.bipush 8, 2) := by decide +kernel
theorem dX7_lay_102 : decode cX7_lay 102 = .ok (.if_icmp .gt 75, 3) := by decide +kernel
theorem dX7_lay_105 : decode cX7_lay 105 = .ok (.iconst 0, 1) := by decide +kernel
theorem dX7_lay_106 : decode cX7_lay 106 = .ok (.istore_n 2, 1) := by decide +kernel
theorem dX7_lay_107 : decode cX7_lay 107 = .ok (.iload_n 2, 1) := by decide +kernel
theorem dX7_lay_108 : decode cX7_lay 108 = .ok (.aload_n 0, 1) := by decide +kernel
theorem dX7_lay_109 : decode cX7_lay 109 = .ok (.invokevirtual 196, 3) := by decide +kernel
theorem dX7_lay_112 : decode cX7_lay 112 = .ok (.if_icmp .gt 59, 3) := by decide +kernel
theorem dX7_lay_115 : decode cX7_lay 115 = .ok (.aload_n 0, 1) := by decide +kernel
theorem dX7_lay_116 : decode cX7_lay 116 = .ok (.getfield 34, 3) := by decide +kernel
theorem dX7_lay_119 : decode cX7_lay 119 = .ok (.iload_n 2, 1) := by decide +kernel
theorem dX7_lay_120 : decode cX7_lay 120 = .ok (.iaload, 1) := by decide +kernel
theorem dX7_lay_121 : decode cX7_lay 121 = .ok (.iconst (-1), 1) := by decide +kernel
theorem dX7_lay_122 : decode cX7_lay 122 = .ok (.if_icmp .eq 43, 3) := by decide +kernel
theorem dX7_lay_125 : decode cX7_lay 125 = .ok (.aload_n 0, 1) := by decide +kernel
theorem dX7_lay_126 : decode cX7_lay 126 = .ok (.getfield 31, 3) := by decide +kernel
theorem dX7_lay_129 : decode cX7_lay 129 = .ok (.iload_n 2, 1) := by decide +kernel
theorem dX7_lay_130 : decode cX7_lay 130 = .ok (.iaload, 1) := by decide +kernel
theorem dX7_lay_131 : decode cX7_lay 131 = .ok (.iload_n 1, 1) := by decide +kernel
theorem dX7_lay_132 : decode cX7_lay 132 = .ok (.if_icmp .ne 33, 3) := by decide +kernel
theorem dX7_lay_135 : decode cX7_lay 135 = .ok (.aload_n 0, 1) := by decide +kernel
theorem dX7_lay_136 : decode cX7_lay 136 = .ok (.getfield 28, 3) := by decide +kernel
theorem dX7_lay_139 : decode cX7_lay 139 = .ok (.aload_n 0, 1) := by decide +kernel
theorem dX7_lay_140 : decode cX7_lay 140 = .ok (.getfield 214, 3) := by decide +kernel
theorem dX7_lay_143 : decode cX7_lay 143 = .ok (.iload_n 2, 1) := by decide +kernel
theorem dX7_lay_144 : decode cX7_lay 144 = .ok (.iastore, 1) := by decide +kernel
theorem dX7_lay_145 : decode cX7_lay 145 = .ok (.aload_n 0, 1) := by decide +kernel
theorem dX7_lay_146 : decode cX7_lay 146 = .ok (.getfield 34, 3) := by decide +kernel
theorem dX7_lay_149 : decode cX7_lay 149 = .ok (.iload_n 2, 1) := by decide +kernel
theorem dX7_lay_150 : decode cX7_lay 150 = .ok (.aload_n 0, 1) := by decide +kernel
theorem dX7_lay_151 : decode cX7_lay 151 = .ok (.getfield 214, 3) := by decide +kernel
theorem dX7_lay_154 : decode cX7_lay 154 = .ok (.iastore, 1) := by decide +kernel
theorem dX7_lay_155 : decode cX7_lay 155 = .ok (.aload_n 0, 1) := by decide +kernel
theorem dX7_lay_156 : decode cX7_lay 156 = .ok (.dup, 1) := by decide +kernel
theorem dX7_lay_157 : decode cX7_lay 157 = .ok (.getfield 214, 3) := by decide +kernel
theorem dX7_lay_160 : decode cX7_lay 160 = .ok (.iconst 1, 1) := by decide +kernel
theorem dX7_lay_161 : decode cX7_lay 161 = .ok (.iadd, 1) := by decide +kernel
theorem dX7_lay_162 : decode cX7_lay 162 = .ok (.putfield 214, 3) := by decide +kernel
theorem dX7_lay_165 : decode cX7_lay 165 = .ok (.iinc 2 1, 3) := by decide +kernel
theorem dX7_lay_168 : decode cX7_lay 168 = .ok (.goto (-61), 3) := by decide +kernel
theorem dX7_lay_171 : decode cX7_lay 171 = .ok (.iinc 1 1, 3) := by decide +kernel
theorem dX7_lay_174 : decode cX7_lay 174 = .ok (.goto (-75), 3) := by decide +kernel
theorem dX7_lay_177 : decode cX7_lay 177 = .ok (.return_, 1) := by decide +kernel
theorem dX7_isFace_0 : decode cX7_isFace 0 = .ok (.aload_n 0, 1) := by decide +kernel
theorem dX7_isFace_1 : decode cX7_isFace 1 = .ok (.invokevirtual 217, 3) := by decide +kernel
theorem dX7_isFace_4 : decode cX7_isFace 4 = .ok (.iload_n 1, 1) := by decide +kernel
theorem dX7_isFace_5 : decode cX7_isFace 5 = .ok (.iconst 0, 1) := by decide +kernel
theorem dX7_isFace_6 : decode cX7_isFace 6 = .ok (.aload_n 0, 1) := by decide +kernel
theorem dX7_isFace_7 : decode cX7_isFace 7 = .ok (.getfield 214, 3) := by decide +kernel
theorem dX7_isFace_10 : decode cX7_isFace 10 = .ok (.iconst 1, 1) := by decide +kernel
theorem dX7_isFace_11 : decode cX7_isFace 11 = .ok (.isub, 1) := by decide +kernel
theorem dX7_isFace_12 : decode cX7_isFace 12 = .ok (.invokestatic 67, 3) := by decide +kernel
theorem dX7_isFace_15 : decode cX7_isFace 15 = .ok (.ireturn, 1) := by decide +kernel
theorem dX7_rankAt_0 : decode cX7_rankAt 0 = .ok (.aload_n 0, 1) := by decide +kernel
theorem dX7_rankAt_1 : decode cX7_rankAt 1 = .ok (.getfield 31, 3) := by decide +kernel
theorem dX7_rankAt_4 : decode cX7_rankAt 4 = .ok (.aload_n 0, 1) := by decide +kernel
theorem dX7_rankAt_5 : decode cX7_rankAt 5 = .ok (.getfield 28, 3) := by decide +kernel
theorem dX7_rankAt_8 : decode cX7_rankAt 8 = .ok (.iload_n 1, 1) := by decide +kernel
theorem dX7_rankAt_9 : decode cX7_rankAt 9 = .ok (.iaload, 1) := by decide +kernel
theorem dX7_rankAt_10 : decode cX7_rankAt 10 = .ok (.iaload, 1) := by decide +kernel
theorem dX7_rankAt_11 : decode cX7_rankAt 11 = .ok (.ireturn, 1) := by decide +kernel
theorem dX7_isIn_0 : decode cX7_isIn 0 = .ok (.aload_n 0, 1) := by decide +kernel
theorem dX7_isIn_1 : decode cX7_isIn 1 = .ok (.getfield 28, 3) := by decide +kernel
theorem dX7_isIn_4 : decode cX7_isIn 4 = .ok (.iload_n 2, 1) := by decide +kernel
theorem dX7_isIn_5 : decode cX7_isIn 5 = .ok (.iaload, 1) := by decide +kernel
theorem dX7_isIn_6 : decode cX7_isIn 6 = .ok (.aload_n 0, 1) := by decide +kernel
theorem dX7_isIn_7 : decode cX7_isIn 7 = .ok (.getfield 28, 3) := by decide +kernel
theorem dX7_isIn_10 : decode cX7_isIn 10 = .ok (.iload_n 1, 1) := by decide +kernel
theorem dX7_isIn_11 : decode cX7_isIn 11 = .ok (.iaload, 1) := by decide +kernel
theorem dX7_isIn_12 : decode cX7_isIn 12 = .ok (.invokestatic 199, 3) := by decide +kernel
theorem dX7_isIn_15 : decode cX7_isIn 15 = .ok (.ireturn, 1) := by decide +kernel
theorem dX7_covers_0 : decode cX7_covers 0 = .ok (.aload_n 0, 1) := by decide +kernel
theorem dX7_covers_1 : decode cX7_covers 1 = .ok (.aload_n 0, 1) := by decide +kernel
theorem dX7_covers_2 : decode cX7_covers 2 = .ok (.getfield 28, 3) := by decide +kernel
theorem dX7_covers_5 : decode cX7_covers 5 = .ok (.iload_n 1, 1) := by decide +kernel
theorem dX7_covers_6 : decode cX7_covers 6 = .ok (.iaload, 1) := by decide +kernel
theorem dX7_covers_7 : decode cX7_covers 7 = .ok (.aload_n 0, 1) := by decide +kernel
theorem dX7_covers_8 : decode cX7_covers 8 = .ok (.getfield 28, 3) := by decide +kernel
theorem dX7_covers_11 : decode cX7_covers 11 = .ok (.iload_n 2, 1) := by decide +kernel
theorem dX7_covers_12 : decode cX7_covers 12 = .ok (.iaload, 1) := by decide +kernel
theorem dX7_covers_13 : decode cX7_covers 13 = .ok (.invokevirtual 202, 3) := by decide +kernel
theorem dX7_covers_16 : decode cX7_covers 16 = .ok (.ireturn, 1) := by decide +kernel
theorem dX7_isPoint_0 : decode cX7_isPoint 0 = .ok (.iload_n 1, 1) := by decide +kernel
theorem dX7_isPoint_1 : decode cX7_isPoint 1 = .ok (.iconst 0, 1) := by decide +kernel
theorem dX7_isPoint_2 : decode cX7_isPoint 2 = .ok (.aload_n 0, 1) := by decide +kernel
theorem dX7_isPoint_3 : decode cX7_isPoint 3 = .ok (.getfield 13, 3) := by decide +kernel
theorem dX7_isPoint_6 : decode cX7_isPoint 6 = .ok (.iconst 0, 1) := by decide +kernel
theorem dX7_isPoint_7 : decode cX7_isPoint 7 = .ok (.iaload, 1) := by decide +kernel
theorem dX7_isPoint_8 : decode cX7_isPoint 8 = .ok (.iconst 1, 1) := by decide +kernel
theorem dX7_isPoint_9 : decode cX7_isPoint 9 = .ok (.isub, 1) := by decide +kernel
theorem dX7_isPoint_10 : decode cX7_isPoint 10 = .ok (.invokestatic 67, 3) := by decide +kernel
theorem dX7_isPoint_13 : decode cX7_isPoint 13 = .ok (.ireturn, 1) := by decide +kernel
theorem dX7_isFacet_0 : decode cX7_isFacet 0 = .ok (.iload_n 1, 1) := by decide +kernel
theorem dX7_isFacet_1 : decode cX7_isFacet 1 = .ok (.iconst 0, 1) := by decide +kernel
theorem dX7_isFacet_2 : decode cX7_isFacet 2 = .ok (.aload_n 0, 1) := by decide +kernel
theorem dX7_isFacet_3 : decode cX7_isFacet 3 = .ok (.getfield 13, 3) := by decide +kernel
theorem dX7_isFacet_6 : decode cX7_isFacet 6 = .ok (.iconst 1, 1) := by decide +kernel
theorem dX7_isFacet_7 : decode cX7_isFacet 7 = .ok (.iaload, 1) := by decide +kernel
theorem dX7_isFacet_8 : decode cX7_isFacet 8 = .ok (.iconst 1, 1) := by decide +kernel
theorem dX7_isFacet_9 : decode cX7_isFacet 9 = .ok (.isub, 1) := by decide +kernel
theorem dX7_isFacet_10 : decode cX7_isFacet 10 = .ok (.invokestatic 67, 3) := by decide +kernel
theorem dX7_isFacet_13 : decode cX7_isFacet 13 = .ok (.ireturn, 1) := by decide +kernel
theorem dX7_isSet_0 : decode cX7_isSet 0 = .ok (.iload_n 1, 1) := by decide +kernel
theorem dX7_isSet_1 : decode cX7_isSet 1 = .ok (.iconst 0, 1) := by decide +kernel
theorem dX7_isSet_2 : decode cX7_isSet 2 = .ok (.aload_n 0, 1) := by decide +kernel
theorem dX7_isSet_3 : decode cX7_isSet 3 = .ok (.invokevirtual 196, 3) := by decide +kernel
theorem dX7_isSet_6 : decode cX7_isSet 6 = .ok (.invokestatic 67, 3) := by decide +kernel
theorem dX7_isSet_9 : decode cX7_isSet 9 = .ok (.ireturn, 1) := by decide +kernel
theorem dX7_faceManyNow_0 : decode cX7_faceManyNow 0 = .ok (.aload_n 0, 1) := by decide +kernel
theorem dX7_faceManyNow_1 : decode cX7_faceManyNow 1 = .ok (.invokevirtual 217, 3) := by decide +kernel
theorem dX7_faceManyNow_4 : decode cX7_faceManyNow 4 = .ok (.aload_n 0, 1) := by decide +kernel
theorem dX7_faceManyNow_5 : decode cX7_faceManyNow 5 = .ok (.getfield 214, 3) := by decide +kernel
theorem dX7_faceManyNow_8 : decode cX7_faceManyNow 8 = .ok (.ireturn, 1) := by decide +kernel
theorem dX7_setIncident_0 : decode cX7_setIncident 0 = .ok (.aload_n 0, 1) := by decide +kernel
theorem dX7_setIncident_1 : decode cX7_setIncident 1 = .ok (.iconst 0, 1) := by decide +kernel
theorem dX7_setIncident_2 : decode cX7_setIncident 2 = .ok (.putfield 52, 3) := by decide +kernel
theorem dX7_setIncident_5 : decode cX7_setIncident 5 = .ok (.aload_n 0, 1) := by decide +kernel
theorem dX7_setIncident_6 : decode cX7_setIncident 6 = .ok (.aload_n 0, 1) := by decide +kernel
theorem dX7_setIncident_7 : decode cX7_setIncident 7 = .ok (.iload_n 1, 1) := by decide +kernel
theorem dX7_setIncident_8 : decode cX7_setIncident 8 = .ok (.invokevirtual 220, 3) := by decide +kernel
theorem dX7_setIncident_11 : decode cX7_setIncident 11 = .ok (.ifCond .eq 15, 3) := by decide +kernel
theorem dX7_setIncident_14 : decode cX7_setIncident 14 = .ok (.aload_n 0, 1) := by decide +kernel
theorem dX7_setIncident_15 : decode cX7_setIncident 15 = .ok (.iload_n 2, 1) := by decide +kernel
theorem dX7_setIncident_16 : decode cX7_setIncident 16 = .ok (.invokevirtual 223, 3) := by decide +kernel
theorem dX7_setIncident_19 : decode cX7_setIncident 19 = .ok (.ifCond .eq 7, 3) := by decide +kernel
theorem dX7_setIncident_22 : decode cX7_setIncident 22 = .ok (.iconst 1, 1) := by decide +kernel
theorem dX7_setIncident_23 : decode cX7_setIncident 23 = .ok (.goto 4, 3) := by decide +kernel
theorem dX7_setIncident_26 : decode cX7_setIncident 26 = .ok (.iconst 0, 1) := by decide +kernel
theorem dX7_setIncident_27 : decode cX7_setIncident 27 = .ok (.iconst 1, 1) := by decide +kernel
theorem dX7_setIncident_28 : decode cX7_setIncident 28 = .ok (.invokevirtual 63, 3) := by decide +kernel
theorem dX7_setIncident_31 : decode cX7_setIncident 31 = .ok (.ifCond .eq 5, 3) := by decide +kernel
theorem dX7_setIncident_34 : decode cX7_setIncident 34 = .ok (.iconst 0, 1) := by decide +kernel
theorem dX7_setIncident_35 : decode cX7_setIncident 35 = .ok (.ireturn, 1) := by decide +kernel
theorem dX7_setIncident_36 : decode cX7_setIncident 36 = .ok (.aload_n 0, 1) := by decide +kernel
theorem dX7_setIncident_37 : decode cX7_setIncident 37 = .ok (.invokevirtual 226, 3) := by decide +kernel
theorem dX7_setIncident_40 : decode cX7_setIncident 40 = .ok (.aload_n 0, 1) := by decide +kernel
theorem dX7_setIncident_41 : decode cX7_setIncident 41 = .ok (.getfield 13, 3) := by decide +kernel
theorem dX7_setIncident_44 : decode cX7_setIncident 44 = .ok (.iconst 2, 1) := by decide +kernel
theorem dX7_setIncident_45 : decode cX7_setIncident 45 = .ok (.iload_n 2, 1) := by decide +kernel
theorem dX7_setIncident_46 : decode cX7_setIncident 46 = .ok (.iadd, 1) := by decide +kernel
theorem dX7_setIncident_47 : decode cX7_setIncident 47 = .ok (.iaload, 1) := by decide +kernel
theorem dX7_setIncident_48 : decode cX7_setIncident 48 = .ok (.iload_n 1, 1) := by decide +kernel
theorem dX7_setIncident_49 : decode cX7_setIncident 49 = .ok (.invokestatic 165, 3) := by decide +kernel
theorem dX7_setIncident_52 : decode cX7_setIncident 52 = .ok (.istore 4, 2) := by decide +kernel
theorem dX7_setIncident_54 : decode cX7_setIncident 54 = .ok (.aload_n 0, 1) := by decide +kernel
theorem dX7_setIncident_55 : decode cX7_setIncident 55 = .ok (.getfield 13, 3) := by decide +kernel
theorem dX7_setIncident_58 : decode cX7_setIncident 58 = .ok (.iconst 2, 1) := by decide +kernel
theorem dX7_setIncident_59 : decode cX7_setIncident 59 = .ok (.iload_n 2, 1) := by decide +kernel
theorem dX7_setIncident_60 : decode cX7_setIncident 60 = .ok (.iadd, 1) := by decide +kernel
theorem dX7_setIncident_61 : decode cX7_setIncident 61 = .ok (.iload_n 3, 1) := by decide +kernel
theorem dX7_setIncident_62 : decode cX7_setIncident 62 = .ok (.ifCond .eq 18, 3) := by decide +kernel
theorem dX7_setIncident_65 : decode cX7_setIncident 65 = .ok (.aload_n 0, 1) := by decide +kernel
theorem dX7_setIncident_66 : decode cX7_setIncident 66 = .ok (.getfield 13, 3) := by decide +kernel
theorem dX7_setIncident_69 : decode cX7_setIncident 69 = .ok (.iconst 2, 1) := by decide +kernel
theorem dX7_setIncident_70 : decode cX7_setIncident 70 = .ok (.iload_n 2, 1) := by decide +kernel
theorem dX7_setIncident_71 : decode cX7_setIncident 71 = .ok (.iadd, 1) := by decide +kernel
theorem dX7_setIncident_72 : decode cX7_setIncident 72 = .ok (.iaload, 1) := by decide +kernel
theorem dX7_setIncident_73 : decode cX7_setIncident 73 = .ok (.iconst 1, 1) := by decide +kernel
theorem dX7_setIncident_74 : decode cX7_setIncident 74 = .ok (.iload_n 1, 1) := by decide +kernel
theorem dX7_setIncident_75 : decode cX7_setIncident 75 = .ok (.ishl, 1) := by decide +kernel
theorem dX7_setIncident_76 : decode cX7_setIncident 76 = .ok (.ior, 1) := by decide +kernel
theorem dX7_setIncident_77 : decode cX7_setIncident 77 = .ok (.goto 17, 3) := by decide +kernel
theorem dX7_setIncident_80 : decode cX7_setIncident 80 = .ok (.aload_n 0, 1) := by decide +kernel
theorem dX7_setIncident_81 : decode cX7_setIncident 81 = .ok (.getfield 13, 3) := by decide +kernel
theorem dX7_setIncident_84 : decode cX7_setIncident 84 = .ok (.iconst 2, 1) := by decide +kernel
theorem dX7_setIncident_85 : decode cX7_setIncident 85 = .ok (.iload_n 2, 1) := by decide +kernel
theorem dX7_setIncident_86 : decode cX7_setIncident 86 = .ok (.iadd, 1) := by decide +kernel
theorem dX7_setIncident_87 : decode cX7_setIncident 87 = .ok (.iaload, 1) := by decide +kernel
theorem dX7_setIncident_88 : decode cX7_setIncident 88 = .ok (.iconst 1, 1) := by decide +kernel
theorem dX7_setIncident_89 : decode cX7_setIncident 89 = .ok (.iload_n 1, 1) := by decide +kernel
theorem dX7_setIncident_90 : decode cX7_setIncident 90 = .ok (.ishl, 1) := by decide +kernel
theorem dX7_setIncident_91 : decode cX7_setIncident 91 = .ok (.iconst (-1), 1) := by decide +kernel
theorem dX7_setIncident_92 : decode cX7_setIncident 92 = .ok (.ixor, 1) := by decide +kernel
theorem dX7_setIncident_93 : decode cX7_setIncident 93 = .ok (.iand, 1) := by decide +kernel
theorem dX7_setIncident_94 : decode cX7_setIncident 94 = .ok (.iastore, 1) := by decide +kernel
theorem dX7_setIncident_95 : decode cX7_setIncident 95 = .ok (.iload 4, 2) := by decide +kernel
theorem dX7_setIncident_97 : decode cX7_setIncident 97 = .ok (.ireturn, 1) := by decide +kernel
theorem dX7_addFacet_0 : decode cX7_addFacet 0 = .ok (.aload_n 0, 1) := by decide +kernel
theorem dX7_addFacet_1 : decode cX7_addFacet 1 = .ok (.iconst 0, 1) := by decide +kernel
theorem dX7_addFacet_2 : decode cX7_addFacet 2 = .ok (.putfield 52, 3) := by decide +kernel
theorem dX7_addFacet_5 : decode cX7_addFacet 5 = .ok (.aload_n 0, 1) := by decide +kernel
theorem dX7_addFacet_6 : decode cX7_addFacet 6 = .ok (.aload_n 0, 1) := by decide +kernel
theorem dX7_addFacet_7 : decode cX7_addFacet 7 = .ok (.iload_n 1, 1) := by decide +kernel
theorem dX7_addFacet_8 : decode cX7_addFacet 8 = .ok (.invokevirtual 229, 3) := by decide +kernel
theorem dX7_addFacet_11 : decode cX7_addFacet 11 = .ok (.iconst 1, 1) := by decide +kernel
theorem dX7_addFacet_12 : decode cX7_addFacet 12 = .ok (.invokevirtual 63, 3) := by decide +kernel
theorem dX7_addFacet_15 : decode cX7_addFacet 15 = .ok (.ifCond .ne 27, 3) := by decide +kernel
theorem dX7_addFacet_18 : decode cX7_addFacet 18 = .ok (.aload_n 0, 1) := by decide +kernel
theorem dX7_addFacet_19 : decode cX7_addFacet 19 = .ok (.aload_n 0, 1) := by decide +kernel
theorem dX7_addFacet_20 : decode cX7_addFacet 20 = .ok (.getfield 13, 3) := by decide +kernel
theorem dX7_addFacet_23 : decode cX7_addFacet 23 = .ok (.iconst 1, 1) := by decide +kernel
theorem dX7_addFacet_24 : decode cX7_addFacet 24 = .ok (.iaload, 1) := by decide +kernel
theorem dX7_addFacet_25 : decode cX7_addFacet 25 = .ok (.bipush 10, 2) := by decide +kernel
theorem dX7_addFacet_27 : decode cX7_addFacet 27 = .ok (.if_icmp .ge 7, 3) := by decide +kernel
theorem dX7_addFacet_30 : decode cX7_addFacet 30 = .ok (.iconst 1, 1) := by decide +kernel
theorem dX7_addFacet_31 : decode cX7_addFacet 31 = .ok (.goto 4, 3) := by decide +kernel
theorem dX7_addFacet_34 : decode cX7_addFacet 34 = .ok (.iconst 0, 1) := by decide +kernel
theorem dX7_addFacet_35 : decode cX7_addFacet 35 = .ok (.iconst 2, 1) := by decide +kernel
theorem dX7_addFacet_36 : decode cX7_addFacet 36 = .ok (.invokevirtual 63, 3) := by decide +kernel
theorem dX7_addFacet_39 : decode cX7_addFacet 39 = .ok (.ifCond .eq 5, 3) := by decide +kernel
theorem dX7_addFacet_42 : decode cX7_addFacet 42 = .ok (.iconst 0, 1) := by decide +kernel
theorem dX7_addFacet_43 : decode cX7_addFacet 43 = .ok (.ireturn, 1) := by decide +kernel
theorem dX7_addFacet_44 : decode cX7_addFacet 44 = .ok (.aload_n 0, 1) := by decide +kernel
theorem dX7_addFacet_45 : decode cX7_addFacet 45 = .ok (.invokevirtual 226, 3) := by decide +kernel
theorem dX7_addFacet_48 : decode cX7_addFacet 48 = .ok (.aload_n 0, 1) := by decide +kernel
theorem dX7_addFacet_49 : decode cX7_addFacet 49 = .ok (.getfield 13, 3) := by decide +kernel
theorem dX7_addFacet_52 : decode cX7_addFacet 52 = .ok (.iconst 2, 1) := by decide +kernel
theorem dX7_addFacet_53 : decode cX7_addFacet 53 = .ok (.aload_n 0, 1) := by decide +kernel
theorem dX7_addFacet_54 : decode cX7_addFacet 54 = .ok (.getfield 13, 3) := by decide +kernel
theorem dX7_addFacet_57 : decode cX7_addFacet 57 = .ok (.iconst 1, 1) := by decide +kernel
theorem dX7_addFacet_58 : decode cX7_addFacet 58 = .ok (.iaload, 1) := by decide +kernel
theorem dX7_addFacet_59 : decode cX7_addFacet 59 = .ok (.iadd, 1) := by decide +kernel
theorem dX7_addFacet_60 : decode cX7_addFacet 60 = .ok (.iload_n 1, 1) := by decide +kernel
theorem dX7_addFacet_61 : decode cX7_addFacet 61 = .ok (.iastore, 1) := by decide +kernel
theorem dX7_addFacet_62 : decode cX7_addFacet 62 = .ok (.aload_n 0, 1) := by decide +kernel
theorem dX7_addFacet_63 : decode cX7_addFacet 63 = .ok (.getfield 13, 3) := by decide +kernel
theorem dX7_addFacet_66 : decode cX7_addFacet 66 = .ok (.iconst 1, 1) := by decide +kernel
theorem dX7_addFacet_67 : decode cX7_addFacet 67 = .ok (.dup2, 1) := by decide +kernel
theorem dX7_addFacet_68 : decode cX7_addFacet 68 = .ok (.iaload, 1) := by decide +kernel
theorem dX7_addFacet_69 : decode cX7_addFacet 69 = .ok (.iconst 1, 1) := by decide +kernel
theorem dX7_addFacet_70 : decode cX7_addFacet 70 = .ok (.iadd, 1) := by decide +kernel
theorem dX7_addFacet_71 : decode cX7_addFacet 71 = .ok (.iastore, 1) := by decide +kernel
theorem dX7_addFacet_72 : decode cX7_addFacet 72 = .ok (.aload_n 0, 1) := by decide +kernel
theorem dX7_addFacet_73 : decode cX7_addFacet 73 = .ok (.getfield 13, 3) := by decide +kernel
theorem dX7_addFacet_76 : decode cX7_addFacet 76 = .ok (.iconst 1, 1) := by decide +kernel
theorem dX7_addFacet_77 : decode cX7_addFacet 77 = .ok (.iaload, 1) := by decide +kernel
theorem dX7_addFacet_78 : decode cX7_addFacet 78 = .ok (.iconst 1, 1) := by decide +kernel
theorem dX7_addFacet_79 : decode cX7_addFacet 79 = .ok (.isub, 1) := by decide +kernel
theorem dX7_addFacet_80 : decode cX7_addFacet 80 = .ok (.ireturn, 1) := by decide +kernel
theorem dX7_dropFacet_0 : decode cX7_dropFacet 0 = .ok (.aload_n 0, 1) := by decide +kernel
theorem dX7_dropFacet_1 : decode cX7_dropFacet 1 = .ok (.getfield 13, 3) := by decide +kernel
theorem dX7_dropFacet_4 : decode cX7_dropFacet 4 = .ok (.iconst 1, 1) := by decide +kernel
theorem dX7_dropFacet_5 : decode cX7_dropFacet 5 = .ok (.dup2, 1) := by decide +kernel
theorem dX7_dropFacet_6 : decode cX7_dropFacet 6 = .ok (.iaload, 1) := by decide +kernel
theorem dX7_dropFacet_7 : decode cX7_dropFacet 7 = .ok (.iconst 1, 1) := by decide +kernel
theorem dX7_dropFacet_8 : decode cX7_dropFacet 8 = .ok (.isub, 1) := by decide +kernel
theorem dX7_dropFacet_9 : decode cX7_dropFacet 9 = .ok (.iastore, 1) := by decide +kernel
theorem dX7_dropFacet_10 : decode cX7_dropFacet 10 = .ok (.iload_n 1, 1) := by decide +kernel
theorem dX7_dropFacet_11 : decode cX7_dropFacet 11 = .ok (.istore_n 2, 1) := by decide +kernel
theorem dX7_dropFacet_12 : decode cX7_dropFacet 12 = .ok (.iload_n 2, 1) := by decide +kernel
theorem dX7_dropFacet_13 : decode cX7_dropFacet 13 = .ok (.aload_n 0, 1) := by decide +kernel
theorem dX7_dropFacet_14 : decode cX7_dropFacet 14 = .ok (.getfield 13, 3) := by decide +kernel
theorem dX7_dropFacet_17 : decode cX7_dropFacet 17 = .ok (.iconst 1, 1) := by decide +kernel
theorem dX7_dropFacet_18 : decode cX7_dropFacet 18 = .ok (.iaload, 1) := by decide +kernel
theorem dX7_dropFacet_19 : decode cX7_dropFacet 19 = .ok (.if_icmp .ge 27, 3) := by decide +kernel
theorem dX7_dropFacet_22 : decode cX7_dropFacet 22 = .ok (.aload_n 0, 1) := by decide +kernel
theorem dX7_dropFacet_23 : decode cX7_dropFacet 23 = .ok (.getfield 13, 3) := by decide +kernel
theorem dX7_dropFacet_26 : decode cX7_dropFacet 26 = .ok (.iconst 2, 1) := by decide +kernel
theorem dX7_dropFacet_27 : decode cX7_dropFacet 27 = .ok (.iload_n 2, 1) := by decide +kernel
theorem dX7_dropFacet_28 : decode cX7_dropFacet 28 = .ok (.iadd, 1) := by decide +kernel
theorem dX7_dropFacet_29 : decode cX7_dropFacet 29 = .ok (.aload_n 0, 1) := by decide +kernel
theorem dX7_dropFacet_30 : decode cX7_dropFacet 30 = .ok (.getfield 13, 3) := by decide +kernel
theorem dX7_dropFacet_33 : decode cX7_dropFacet 33 = .ok (.iconst 2, 1) := by decide +kernel
theorem dX7_dropFacet_34 : decode cX7_dropFacet 34 = .ok (.iload_n 2, 1) := by decide +kernel
theorem dX7_dropFacet_35 : decode cX7_dropFacet 35 = .ok (.iadd, 1) := by decide +kernel
theorem dX7_dropFacet_36 : decode cX7_dropFacet 36 = .ok (.iconst 1, 1) := by decide +kernel
theorem dX7_dropFacet_37 : decode cX7_dropFacet 37 = .ok (.iadd, 1) := by decide +kernel
theorem dX7_dropFacet_38 : decode cX7_dropFacet 38 = .ok (.iaload, 1) := by decide +kernel
theorem dX7_dropFacet_39 : decode cX7_dropFacet 39 = .ok (.iastore, 1) := by decide +kernel
theorem dX7_dropFacet_40 : decode cX7_dropFacet 40 = .ok (.iinc 2 1, 3) := by decide +kernel
theorem dX7_dropFacet_43 : decode cX7_dropFacet 43 = .ok (.goto (-31), 3) := by decide +kernel
theorem dX7_dropFacet_46 : decode cX7_dropFacet 46 = .ok (.aload_n 0, 1) := by decide +kernel
theorem dX7_dropFacet_47 : decode cX7_dropFacet 47 = .ok (.getfield 13, 3) := by decide +kernel
theorem dX7_dropFacet_50 : decode cX7_dropFacet 50 = .ok (.iconst 2, 1) := by decide +kernel
theorem dX7_dropFacet_51 : decode cX7_dropFacet 51 = .ok (.aload_n 0, 1) := by decide +kernel
theorem dX7_dropFacet_52 : decode cX7_dropFacet 52 = .ok (.getfield 13, 3) := by decide +kernel
theorem dX7_dropFacet_55 : decode cX7_dropFacet 55 = .ok (.iconst 1, 1) := by decide +kernel
theorem dX7_dropFacet_56 : decode cX7_dropFacet 56 = .ok (.iaload, 1) := by decide +kernel
theorem dX7_dropFacet_57 : decode cX7_dropFacet 57 = .ok (.iadd, 1) := by decide +kernel
theorem dX7_dropFacet_58 : decode cX7_dropFacet 58 = .ok (.iconst 0, 1) := by decide +kernel
theorem dX7_dropFacet_59 : decode cX7_dropFacet 59 = .ok (.iastore, 1) := by decide +kernel
theorem dX7_dropFacet_60 : decode cX7_dropFacet 60 = .ok (.return_, 1) := by decide +kernel
theorem dX7_removeFacet_0 : decode cX7_removeFacet 0 = .ok (.aload_n 0, 1) := by decide +kernel
theorem dX7_removeFacet_1 : decode cX7_removeFacet 1 = .ok (.iconst 0, 1) := by decide +kernel
theorem dX7_removeFacet_2 : decode cX7_removeFacet 2 = .ok (.putfield 52, 3) := by decide +kernel
theorem dX7_removeFacet_5 : decode cX7_removeFacet 5 = .ok (.aload_n 0, 1) := by decide +kernel
theorem dX7_removeFacet_6 : decode cX7_removeFacet 6 = .ok (.aload_n 0, 1) := by decide +kernel
theorem dX7_removeFacet_7 : decode cX7_removeFacet 7 = .ok (.iload_n 1, 1) := by decide +kernel
theorem dX7_removeFacet_8 : decode cX7_removeFacet 8 = .ok (.invokevirtual 223, 3) := by decide +kernel
theorem dX7_removeFacet_11 : decode cX7_removeFacet 11 = .ok (.iconst 1, 1) := by decide +kernel
theorem dX7_removeFacet_12 : decode cX7_removeFacet 12 = .ok (.invokevirtual 63, 3) := by decide +kernel
theorem dX7_removeFacet_15 : decode cX7_removeFacet 15 = .ok (.ifCond .eq 5, 3) := by decide +kernel
theorem dX7_removeFacet_18 : decode cX7_removeFacet 18 = .ok (.iconst 0, 1) := by decide +kernel
theorem dX7_removeFacet_19 : decode cX7_removeFacet 19 = .ok (.ireturn, 1) := by decide +kernel
theorem dX7_removeFacet_20 : decode cX7_removeFacet 20 = .ok (.aload_n 0, 1) := by decide +kernel
theorem dX7_removeFacet_21 : decode cX7_removeFacet 21 = .ok (.invokevirtual 226, 3) := by decide +kernel
theorem dX7_removeFacet_24 : decode cX7_removeFacet 24 = .ok (.aload_n 0, 1) := by decide +kernel
theorem dX7_removeFacet_25 : decode cX7_removeFacet 25 = .ok (.getfield 13, 3) := by decide +kernel
theorem dX7_removeFacet_28 : decode cX7_removeFacet 28 = .ok (.iconst 2, 1) := by decide +kernel
theorem dX7_removeFacet_29 : decode cX7_removeFacet 29 = .ok (.iload_n 1, 1) := by decide +kernel
theorem dX7_removeFacet_30 : decode cX7_removeFacet 30 = .ok (.iadd, 1) := by decide +kernel
theorem dX7_removeFacet_31 : decode cX7_removeFacet 31 = .ok (.iaload, 1) := by decide +kernel
theorem dX7_removeFacet_32 : decode cX7_removeFacet 32 = .ok (.istore_n 2, 1) := by decide +kernel
theorem dX7_removeFacet_33 : decode cX7_removeFacet 33 = .ok (.aload_n 0, 1) := by decide +kernel
theorem dX7_removeFacet_34 : decode cX7_removeFacet 34 = .ok (.iload_n 1, 1) := by decide +kernel
theorem dX7_removeFacet_35 : decode cX7_removeFacet 35 = .ok (.invokevirtual 232, 3) := by decide +kernel
theorem dX7_removeFacet_38 : decode cX7_removeFacet 38 = .ok (.iload_n 2, 1) := by decide +kernel
theorem dX7_removeFacet_39 : decode cX7_removeFacet 39 = .ok (.ireturn, 1) := by decide +kernel
theorem dX7_facetsWith_0 : decode cX7_facetsWith 0 = .ok (.iconst 0, 1) := by decide +kernel
theorem dX7_facetsWith_1 : decode cX7_facetsWith 1 = .ok (.istore_n 2, 1) := by decide +kernel
theorem dX7_facetsWith_2 : decode cX7_facetsWith 2 = .ok (.iconst 0, 1) := by decide +kernel
theorem dX7_facetsWith_3 : decode cX7_facetsWith 3 = .ok (.istore_n 3, 1) := by decide +kernel
theorem dX7_facetsWith_4 : decode cX7_facetsWith 4 = .ok (.iload_n 3, 1) := by decide +kernel
theorem dX7_facetsWith_5 : decode cX7_facetsWith 5 = .ok (.aload_n 0, 1) := by decide +kernel
theorem dX7_facetsWith_6 : decode cX7_facetsWith 6 = .ok (.getfield 13, 3) := by decide +kernel
theorem dX7_facetsWith_9 : decode cX7_facetsWith 9 = .ok (.iconst 1, 1) := by decide +kernel
theorem dX7_facetsWith_10 : decode cX7_facetsWith 10 = .ok (.iaload, 1) := by decide +kernel
theorem dX7_facetsWith_11 : decode cX7_facetsWith 11 = .ok (.if_icmp .ge 34, 3) := by decide +kernel
theorem dX7_facetsWith_14 : decode cX7_facetsWith 14 = .ok (.iload_n 2, 1) := by decide +kernel
theorem dX7_facetsWith_15 : decode cX7_facetsWith 15 = .ok (.aload_n 0, 1) := by decide +kernel
theorem dX7_facetsWith_16 : decode cX7_facetsWith 16 = .ok (.getfield 13, 3) := by decide +kernel
theorem dX7_facetsWith_19 : decode cX7_facetsWith 19 = .ok (.iconst 2, 1) := by decide +kernel
theorem dX7_facetsWith_20 : decode cX7_facetsWith 20 = .ok (.iload_n 3, 1) := by decide +kernel
theorem dX7_facetsWith_21 : decode cX7_facetsWith 21 = .ok (.iadd, 1) := by decide +kernel
theorem dX7_facetsWith_22 : decode cX7_facetsWith 22 = .ok (.iaload, 1) := by decide +kernel
theorem dX7_facetsWith_23 : decode cX7_facetsWith 23 = .ok (.iload_n 1, 1) := by decide +kernel
theorem dX7_facetsWith_24 : decode cX7_facetsWith 24 = .ok (.invokestatic 165, 3) := by decide +kernel
theorem dX7_facetsWith_27 : decode cX7_facetsWith 27 = .ok (.ifCond .eq 9, 3) := by decide +kernel
theorem dX7_facetsWith_30 : decode cX7_facetsWith 30 = .ok (.iconst 1, 1) := by decide +kernel
theorem dX7_facetsWith_31 : decode cX7_facetsWith 31 = .ok (.iload_n 3, 1) := by decide +kernel
theorem dX7_facetsWith_32 : decode cX7_facetsWith 32 = .ok (.ishl, 1) := by decide +kernel
theorem dX7_facetsWith_33 : decode cX7_facetsWith 33 = .ok (.goto 4, 3) := by decide +kernel
theorem dX7_facetsWith_36 : decode cX7_facetsWith 36 = .ok (.iconst 0, 1) := by decide +kernel
theorem dX7_facetsWith_37 : decode cX7_facetsWith 37 = .ok (.ior, 1) := by decide +kernel
theorem dX7_facetsWith_38 : decode cX7_facetsWith 38 = .ok (.istore_n 2, 1) := by decide +kernel
theorem dX7_facetsWith_39 : decode cX7_facetsWith 39 = .ok (.iinc 3 1, 3) := by decide +kernel
theorem dX7_facetsWith_42 : decode cX7_facetsWith 42 = .ok (.goto (-38), 3) := by decide +kernel
theorem dX7_facetsWith_45 : decode cX7_facetsWith 45 = .ok (.iload_n 2, 1) := by decide +kernel
theorem dX7_facetsWith_46 : decode cX7_facetsWith 46 = .ok (.ireturn, 1) := by decide +kernel
theorem dX7_dual_0 : decode cX7_dual 0 = .ok (.aload_n 0, 1) := by decide +kernel
theorem dX7_dual_1 : decode cX7_dual 1 = .ok (.iconst 0, 1) := by decide +kernel
theorem dX7_dual_2 : decode cX7_dual 2 = .ok (.putfield 52, 3) := by decide +kernel
theorem dX7_dual_5 : decode cX7_dual 5 = .ok (.aload_n 0, 1) := by decide +kernel
theorem dX7_dual_6 : decode cX7_dual 6 = .ok (.aload_n 0, 1) := by decide +kernel
theorem dX7_dual_7 : decode cX7_dual 7 = .ok (.getfield 13, 3) := by decide +kernel
theorem dX7_dual_10 : decode cX7_dual 10 = .ok (.iconst 1, 1) := by decide +kernel
theorem dX7_dual_11 : decode cX7_dual 11 = .ok (.iaload, 1) := by decide +kernel
theorem dX7_dual_12 : decode cX7_dual 12 = .ok (.iconst 1, 1) := by decide +kernel
theorem dX7_dual_13 : decode cX7_dual 13 = .ok (.bipush 8, 2) := by decide +kernel
theorem dX7_dual_15 : decode cX7_dual 15 = .ok (.invokestatic 67, 3) := by decide +kernel
theorem dX7_dual_18 : decode cX7_dual 18 = .ok (.iconst 1, 1) := by decide +kernel
theorem dX7_dual_19 : decode cX7_dual 19 = .ok (.invokevirtual 63, 3) := by decide +kernel
theorem dX7_dual_22 : decode cX7_dual 22 = .ok (.ifCond .eq 5, 3) := by decide +kernel
theorem dX7_dual_25 : decode cX7_dual 25 = .ok (.iconst 0, 1) := by decide +kernel
theorem dX7_dual_26 : decode cX7_dual 26 = .ok (.ireturn, 1) := by decide +kernel
theorem dX7_dual_27 : decode cX7_dual 27 = .ok (.aload_n 0, 1) := by decide +kernel
theorem dX7_dual_28 : decode cX7_dual 28 = .ok (.invokevirtual 226, 3) := by decide +kernel
theorem dX7_dual_31 : decode cX7_dual 31 = .ok (.aload_n 0, 1) := by decide +kernel
theorem dX7_dual_32 : decode cX7_dual 32 = .ok (.aload_n 0, 1) := by decide +kernel
theorem dX7_dual_33 : decode cX7_dual 33 = .ok (.getfield 13, 3) := by decide +kernel
theorem dX7_dual_36 : decode cX7_dual 36 = .ok (.iconst 1, 1) := by decide +kernel
theorem dX7_dual_37 : decode cX7_dual 37 = .ok (.iaload, 1) := by decide +kernel
theorem dX7_dual_38 : decode cX7_dual 38 = .ok (.invokevirtual 123, 3) := by decide +kernel
theorem dX7_dual_41 : decode cX7_dual 41 = .ok (.iconst 0, 1) := by decide +kernel
theorem dX7_dual_42 : decode cX7_dual 42 = .ok (.istore_n 1, 1) := by decide +kernel
theorem dX7_dual_43 : decode cX7_dual 43 = .ok (.iload_n 1, 1) := by decide +kernel
theorem dX7_dual_44 : decode cX7_dual 44 = .ok (.aload_n 0, 1) := by decide +kernel
theorem dX7_dual_45 : decode cX7_dual 45 = .ok (.getfield 13, 3) := by decide +kernel
theorem dX7_dual_48 : decode cX7_dual 48 = .ok (.iconst 0, 1) := by decide +kernel
theorem dX7_dual_49 : decode cX7_dual 49 = .ok (.iaload, 1) := by decide +kernel
theorem dX7_dual_50 : decode cX7_dual 50 = .ok (.if_icmp .ge 18, 3) := by decide +kernel
theorem dX7_dual_53 : decode cX7_dual 53 = .ok (.aload_n 0, 1) := by decide +kernel
theorem dX7_dual_54 : decode cX7_dual 54 = .ok (.aload_n 0, 1) := by decide +kernel
theorem dX7_dual_55 : decode cX7_dual 55 = .ok (.iload_n 1, 1) := by decide +kernel
theorem dX7_dual_56 : decode cX7_dual 56 = .ok (.invokevirtual 235, 3) := by decide +kernel
theorem dX7_dual_59 : decode cX7_dual 59 = .ok (.invokevirtual 130, 3) := by decide +kernel
theorem dX7_dual_62 : decode cX7_dual 62 = .ok (.iinc 1 1, 3) := by decide +kernel
theorem dX7_dual_65 : decode cX7_dual 65 = .ok (.goto (-22), 3) := by decide +kernel
theorem dX7_dual_68 : decode cX7_dual 68 = .ok (.aload_n 0, 1) := by decide +kernel
theorem dX7_dual_69 : decode cX7_dual 69 = .ok (.invokevirtual 187, 3) := by decide +kernel
theorem dX7_dual_72 : decode cX7_dual 72 = .ok (.aload_n 0, 1) := by decide +kernel
theorem dX7_dual_73 : decode cX7_dual 73 = .ok (.invokevirtual 238, 3) := by decide +kernel
theorem dX7_dual_76 : decode cX7_dual 76 = .ok (.ireturn, 1) := by decide +kernel
theorem dX7_pyramid_0 : decode cX7_pyramid 0 = .ok (.aload_n 0, 1) := by decide +kernel
theorem dX7_pyramid_1 : decode cX7_pyramid 1 = .ok (.iconst 0, 1) := by decide +kernel
theorem dX7_pyramid_2 : decode cX7_pyramid 2 = .ok (.putfield 52, 3) := by decide +kernel
theorem dX7_pyramid_5 : decode cX7_pyramid 5 = .ok (.aload_n 0, 1) := by decide +kernel
theorem dX7_pyramid_6 : decode cX7_pyramid 6 = .ok (.aload_n 0, 1) := by decide +kernel
theorem dX7_pyramid_7 : decode cX7_pyramid 7 = .ok (.getfield 13, 3) := by decide +kernel
theorem dX7_pyramid_10 : decode cX7_pyramid 10 = .ok (.iconst 0, 1) := by decide +kernel
theorem dX7_pyramid_11 : decode cX7_pyramid 11 = .ok (.iaload, 1) := by decide +kernel
theorem dX7_pyramid_12 : decode cX7_pyramid 12 = .ok (.bipush 8, 2) := by decide +kernel
theorem dX7_pyramid_14 : decode cX7_pyramid 14 = .ok (.if_icmp .ge 18, 3) := by decide +kernel
theorem dX7_pyramid_17 : decode cX7_pyramid 17 = .ok (.aload_n 0, 1) := by decide +kernel
theorem dX7_pyramid_18 : decode cX7_pyramid 18 = .ok (.getfield 13, 3) := by decide +kernel
theorem dX7_pyramid_21 : decode cX7_pyramid 21 = .ok (.iconst 1, 1) := by decide +kernel
theorem dX7_pyramid_22 : decode cX7_pyramid 22 = .ok (.iaload, 1) := by decide +kernel
theorem dX7_pyramid_23 : decode cX7_pyramid 23 = .ok (.bipush 10, 2) := by decide +kernel
theorem dX7_pyramid_25 : decode cX7_pyramid 25 = .ok (.if_icmp .ge 7, 3) := by decide +kernel
theorem dX7_pyramid_28 : decode cX7_pyramid 28 = .ok (.iconst 1, 1) := by decide +kernel
theorem dX7_pyramid_29 : decode cX7_pyramid 29 = .ok (.goto 4, 3) := by decide +kernel
theorem dX7_pyramid_32 : decode cX7_pyramid 32 = .ok (.iconst 0, 1) := by decide +kernel
theorem dX7_pyramid_33 : decode cX7_pyramid 33 = .ok (.iconst 1, 1) := by decide +kernel
theorem dX7_pyramid_34 : decode cX7_pyramid 34 = .ok (.invokevirtual 63, 3) := by decide +kernel
theorem dX7_pyramid_37 : decode cX7_pyramid 37 = .ok (.ifCond .eq 5, 3) := by decide +kernel
theorem dX7_pyramid_40 : decode cX7_pyramid 40 = .ok (.iconst 0, 1) := by decide +kernel
theorem dX7_pyramid_41 : decode cX7_pyramid 41 = .ok (.ireturn, 1) := by decide +kernel
theorem dX7_pyramid_42 : decode cX7_pyramid 42 = .ok (.aload_n 0, 1) := by decide +kernel
theorem dX7_pyramid_43 : decode cX7_pyramid 43 = .ok (.invokevirtual 226, 3) := by decide +kernel
theorem dX7_pyramid_46 : decode cX7_pyramid 46 = .ok (.aload_n 0, 1) := by decide +kernel
theorem dX7_pyramid_47 : decode cX7_pyramid 47 = .ok (.aload_n 0, 1) := by decide +kernel
theorem dX7_pyramid_48 : decode cX7_pyramid 48 = .ok (.getfield 13, 3) := by decide +kernel
theorem dX7_pyramid_51 : decode cX7_pyramid 51 = .ok (.iconst 0, 1) := by decide +kernel
theorem dX7_pyramid_52 : decode cX7_pyramid 52 = .ok (.iaload, 1) := by decide +kernel
theorem dX7_pyramid_53 : decode cX7_pyramid 53 = .ok (.iconst 1, 1) := by decide +kernel
theorem dX7_pyramid_54 : decode cX7_pyramid 54 = .ok (.iadd, 1) := by decide +kernel
theorem dX7_pyramid_55 : decode cX7_pyramid 55 = .ok (.invokevirtual 123, 3) := by decide +kernel
theorem dX7_pyramid_58 : decode cX7_pyramid 58 = .ok (.iconst 0, 1) := by decide +kernel
theorem dX7_pyramid_59 : decode cX7_pyramid 59 = .ok (.istore_n 1, 1) := by decide +kernel
theorem dX7_pyramid_60 : decode cX7_pyramid 60 = .ok (.iload_n 1, 1) := by decide +kernel
theorem dX7_pyramid_61 : decode cX7_pyramid 61 = .ok (.aload_n 0, 1) := by decide +kernel
theorem dX7_pyramid_62 : decode cX7_pyramid 62 = .ok (.getfield 13, 3) := by decide +kernel
theorem dX7_pyramid_65 : decode cX7_pyramid 65 = .ok (.iconst 1, 1) := by decide +kernel
theorem dX7_pyramid_66 : decode cX7_pyramid 66 = .ok (.iaload, 1) := by decide +kernel
theorem dX7_pyramid_67 : decode cX7_pyramid 67 = .ok (.if_icmp .ge 30, 3) := by decide +kernel
theorem dX7_pyramid_70 : decode cX7_pyramid 70 = .ok (.aload_n 0, 1) := by decide +kernel
theorem dX7_pyramid_71 : decode cX7_pyramid 71 = .ok (.aload_n 0, 1) := by decide +kernel
theorem dX7_pyramid_72 : decode cX7_pyramid 72 = .ok (.getfield 13, 3) := by decide +kernel
theorem dX7_pyramid_75 : decode cX7_pyramid 75 = .ok (.iconst 2, 1) := by decide +kernel
theorem dX7_pyramid_76 : decode cX7_pyramid 76 = .ok (.iload_n 1, 1) := by decide +kernel
theorem dX7_pyramid_77 : decode cX7_pyramid 77 = .ok (.iadd, 1) := by decide +kernel
theorem dX7_pyramid_78 : decode cX7_pyramid 78 = .ok (.iaload, 1) := by decide +kernel
theorem dX7_pyramid_79 : decode cX7_pyramid 79 = .ok (.iconst 1, 1) := by decide +kernel
theorem dX7_pyramid_80 : decode cX7_pyramid 80 = .ok (.aload_n 0, 1) := by decide +kernel
theorem dX7_pyramid_81 : decode cX7_pyramid 81 = .ok (.getfield 13, 3) := by decide +kernel
theorem dX7_pyramid_84 : decode cX7_pyramid 84 = .ok (.iconst 0, 1) := by decide +kernel
theorem dX7_pyramid_85 : decode cX7_pyramid 85 = .ok (.iaload, 1) := by decide +kernel
theorem dX7_pyramid_86 : decode cX7_pyramid 86 = .ok (.ishl, 1) := by decide +kernel
theorem dX7_pyramid_87 : decode cX7_pyramid 87 = .ok (.ior, 1) := by decide +kernel
theorem dX7_pyramid_88 : decode cX7_pyramid 88 = .ok (.invokevirtual 130, 3) := by decide +kernel
theorem dX7_pyramid_91 : decode cX7_pyramid 91 = .ok (.iinc 1 1, 3) := by decide +kernel
theorem dX7_pyramid_94 : decode cX7_pyramid 94 = .ok (.goto (-34), 3) := by decide +kernel
theorem dX7_pyramid_97 : decode cX7_pyramid 97 = .ok (.aload_n 0, 1) := by decide +kernel
theorem dX7_pyramid_98 : decode cX7_pyramid 98 = .ok (.aload_n 0, 1) := by decide +kernel
theorem dX7_pyramid_99 : decode cX7_pyramid 99 = .ok (.invokevirtual 196, 3) := by decide +kernel
theorem dX7_pyramid_102 : decode cX7_pyramid 102 = .ok (.invokevirtual 130, 3) := by decide +kernel
theorem dX7_pyramid_105 : decode cX7_pyramid 105 = .ok (.aload_n 0, 1) := by decide +kernel
theorem dX7_pyramid_106 : decode cX7_pyramid 106 = .ok (.invokevirtual 187, 3) := by decide +kernel
theorem dX7_pyramid_109 : decode cX7_pyramid 109 = .ok (.aload_n 0, 1) := by decide +kernel
theorem dX7_pyramid_110 : decode cX7_pyramid 110 = .ok (.invokevirtual 238, 3) := by decide +kernel
theorem dX7_pyramid_113 : decode cX7_pyramid 113 = .ok (.ireturn, 1) := by decide +kernel
theorem dX7_coverCount_0 : decode cX7_coverCount 0 = .ok (.iconst 0, 1) := by decide +kernel
theorem dX7_coverCount_1 : decode cX7_coverCount 1 = .ok (.istore_n 3, 1) := by decide +kernel
theorem dX7_coverCount_2 : decode cX7_coverCount 2 = .ok (.iconst 0, 1) := by decide +kernel
theorem dX7_coverCount_3 : decode cX7_coverCount 3 = .ok (.istore 4, 2) := by decide +kernel
theorem dX7_coverCount_5 : decode cX7_coverCount 5 = .ok (.iload 4, 2) := by decide +kernel
theorem dX7_coverCount_7 : decode cX7_coverCount 7 = .ok (.aload_n 0, 1) := by decide +kernel
theorem dX7_coverCount_8 : decode cX7_coverCount 8 = .ok (.getfield 214, 3) := by decide +kernel
theorem dX7_coverCount_11 : decode cX7_coverCount 11 = .ok (.if_icmp .ge 44, 3) := by decide +kernel
theorem dX7_coverCount_14 : decode cX7_coverCount 14 = .ok (.iload_n 3, 1) := by decide +kernel
theorem dX7_coverCount_15 : decode cX7_coverCount 15 = .ok (.iload_n 2, 1) := by decide +kernel
theorem dX7_coverCount_16 : decode cX7_coverCount 16 = .ok (.ifCond .eq 16, 3) := by decide +kernel
theorem dX7_coverCount_19 : decode cX7_coverCount 19 = .ok (.aload_n 0, 1) := by decide +kernel
theorem dX7_coverCount_20 : decode cX7_coverCount 20 = .ok (.iload 4, 2) := by decide +kernel
theorem dX7_coverCount_22 : decode cX7_coverCount 22 = .ok (.iload_n 1, 1) := by decide +kernel
theorem dX7_coverCount_23 : decode cX7_coverCount 23 = .ok (.invokevirtual 241, 3) := by decide +kernel
theorem dX7_coverCount_26 : decode cX7_coverCount 26 = .ok (.ifCond .eq 20, 3) := by decide +kernel
theorem dX7_coverCount_29 : decode cX7_coverCount 29 = .ok (.goto 13, 3) := by decide +kernel
theorem dX7_coverCount_32 : decode cX7_coverCount 32 = .ok (.aload_n 0, 1) := by decide +kernel
theorem dX7_coverCount_33 : decode cX7_coverCount 33 = .ok (.iload_n 1, 1) := by decide +kernel
theorem dX7_coverCount_34 : decode cX7_coverCount 34 = .ok (.iload 4, 2) := by decide +kernel
theorem dX7_coverCount_36 : decode cX7_coverCount 36 = .ok (.invokevirtual 241, 3) := by decide +kernel
theorem dX7_coverCount_39 : decode cX7_coverCount 39 = .ok (.ifCond .eq 7, 3) := by decide +kernel
theorem dX7_coverCount_42 : decode cX7_coverCount 42 = .ok (.iconst 1, 1) := by decide +kernel
theorem dX7_coverCount_43 : decode cX7_coverCount 43 = .ok (.goto 4, 3) := by decide +kernel
theorem dX7_coverCount_46 : decode cX7_coverCount 46 = .ok (.iconst 0, 1) := by decide +kernel
theorem dX7_coverCount_47 : decode cX7_coverCount 47 = .ok (.iadd, 1) := by decide +kernel
theorem dX7_coverCount_48 : decode cX7_coverCount 48 = .ok (.istore_n 3, 1) := by decide +kernel
theorem dX7_coverCount_49 : decode cX7_coverCount 49 = .ok (.iinc 4 1, 3) := by decide +kernel
theorem dX7_coverCount_52 : decode cX7_coverCount 52 = .ok (.goto (-47), 3) := by decide +kernel
theorem dX7_coverCount_55 : decode cX7_coverCount 55 = .ok (.iload_n 3, 1) := by decide +kernel
theorem dX7_coverCount_56 : decode cX7_coverCount 56 = .ok (.ireturn, 1) := by decide +kernel
theorem dX7_stack_0 : decode cX7_stack 0 = .ok (.aload_n 0, 1) := by decide +kernel
theorem dX7_stack_1 : decode cX7_stack 1 = .ok (.iconst 0, 1) := by decide +kernel
theorem dX7_stack_2 : decode cX7_stack 2 = .ok (.putfield 52, 3) := by decide +kernel
theorem dX7_stack_5 : decode cX7_stack 5 = .ok (.aload_n 0, 1) := by decide +kernel
theorem dX7_stack_6 : decode cX7_stack 6 = .ok (.aload_n 0, 1) := by decide +kernel
theorem dX7_stack_7 : decode cX7_stack 7 = .ok (.iload_n 1, 1) := by decide +kernel
theorem dX7_stack_8 : decode cX7_stack 8 = .ok (.invokevirtual 223, 3) := by decide +kernel
theorem dX7_stack_11 : decode cX7_stack 11 = .ok (.iconst 1, 1) := by decide +kernel
theorem dX7_stack_12 : decode cX7_stack 12 = .ok (.invokevirtual 63, 3) := by decide +kernel
theorem dX7_stack_15 : decode cX7_stack 15 = .ok (.ifCond .eq 5, 3) := by decide +kernel
theorem dX7_stack_18 : decode cX7_stack 18 = .ok (.iconst 0, 1) := by decide +kernel
theorem dX7_stack_19 : decode cX7_stack 19 = .ok (.ireturn, 1) := by decide +kernel
theorem dX7_stack_20 : decode cX7_stack 20 = .ok (.aload_n 0, 1) := by decide +kernel
theorem dX7_stack_21 : decode cX7_stack 21 = .ok (.invokevirtual 217, 3) := by decide +kernel
theorem dX7_stack_24 : decode cX7_stack 24 = .ok (.aload_n 0, 1) := by decide +kernel
theorem dX7_stack_25 : decode cX7_stack 25 = .ok (.getfield 34, 3) := by decide +kernel
theorem dX7_stack_28 : decode cX7_stack 28 = .ok (.aload_n 0, 1) := by decide +kernel
theorem dX7_stack_29 : decode cX7_stack 29 = .ok (.getfield 13, 3) := by decide +kernel
theorem dX7_stack_32 : decode cX7_stack 32 = .ok (.iconst 2, 1) := by decide +kernel
theorem dX7_stack_33 : decode cX7_stack 33 = .ok (.iload_n 1, 1) := by decide +kernel
theorem dX7_stack_34 : decode cX7_stack 34 = .ok (.iadd, 1) := by decide +kernel
theorem dX7_stack_35 : decode cX7_stack 35 = .ok (.iaload, 1) := by decide +kernel
theorem dX7_stack_36 : decode cX7_stack 36 = .ok (.iaload, 1) := by decide +kernel
theorem dX7_stack_37 : decode cX7_stack 37 = .ok (.istore_n 2, 1) := by decide +kernel
theorem dX7_stack_38 : decode cX7_stack 38 = .ok (.aload_n 0, 1) := by decide +kernel
theorem dX7_stack_39 : decode cX7_stack 39 = .ok (.iload_n 2, 1) := by decide +kernel
theorem dX7_stack_40 : decode cX7_stack 40 = .ok (.iconst 0, 1) := by decide +kernel
theorem dX7_stack_41 : decode cX7_stack 41 = .ok (.invokevirtual 244, 3) := by decide +kernel
theorem dX7_stack_44 : decode cX7_stack 44 = .ok (.istore_n 3, 1) := by decide +kernel
theorem dX7_stack_45 : decode cX7_stack 45 = .ok (.aload_n 0, 1) := by decide +kernel
theorem dX7_stack_46 : decode cX7_stack 46 = .ok (.iload_n 3, 1) := by decide +kernel
theorem dX7_stack_47 : decode cX7_stack 47 = .ok (.ifCond .le 33, 3) := by decide +kernel
theorem dX7_stack_50 : decode cX7_stack 50 = .ok (.aload_n 0, 1) := by decide +kernel
theorem dX7_stack_51 : decode cX7_stack 51 = .ok (.getfield 13, 3) := by decide +kernel
theorem dX7_stack_54 : decode cX7_stack 54 = .ok (.iconst 0, 1) := by decide +kernel
theorem dX7_stack_55 : decode cX7_stack 55 = .ok (.iaload, 1) := by decide +kernel
theorem dX7_stack_56 : decode cX7_stack 56 = .ok (.bipush 8, 2) := by decide +kernel
theorem dX7_stack_58 : decode cX7_stack 58 = .ok (.if_icmp .ge 22, 3) := by decide +kernel
theorem dX7_stack_61 : decode cX7_stack 61 = .ok (.aload_n 0, 1) := by decide +kernel
theorem dX7_stack_62 : decode cX7_stack 62 = .ok (.getfield 13, 3) := by decide +kernel
theorem dX7_stack_65 : decode cX7_stack 65 = .ok (.iconst 1, 1) := by decide +kernel
theorem dX7_stack_66 : decode cX7_stack 66 = .ok (.iaload, 1) := by decide +kernel
theorem dX7_stack_67 : decode cX7_stack 67 = .ok (.iconst 1, 1) := by decide +kernel
theorem dX7_stack_68 : decode cX7_stack 68 = .ok (.isub, 1) := by decide +kernel
theorem dX7_stack_69 : decode cX7_stack 69 = .ok (.iload_n 3, 1) := by decide +kernel
theorem dX7_stack_70 : decode cX7_stack 70 = .ok (.iadd, 1) := by decide +kernel
theorem dX7_stack_71 : decode cX7_stack 71 = .ok (.bipush 10, 2) := by decide +kernel
theorem dX7_stack_73 : decode cX7_stack 73 = .ok (.if_icmp .gt 7, 3) := by decide +kernel
theorem dX7_stack_76 : decode cX7_stack 76 = .ok (.iconst 1, 1) := by decide +kernel
theorem dX7_stack_77 : decode cX7_stack 77 = .ok (.goto 4, 3) := by decide +kernel
theorem dX7_stack_80 : decode cX7_stack 80 = .ok (.iconst 0, 1) := by decide +kernel
theorem dX7_stack_81 : decode cX7_stack 81 = .ok (.iconst 2, 1) := by decide +kernel
theorem dX7_stack_82 : decode cX7_stack 82 = .ok (.invokevirtual 63, 3) := by decide +kernel
theorem dX7_stack_85 : decode cX7_stack 85 = .ok (.ifCond .eq 5, 3) := by decide +kernel
theorem dX7_stack_88 : decode cX7_stack 88 = .ok (.iconst 0, 1) := by decide +kernel
theorem dX7_stack_89 : decode cX7_stack 89 = .ok (.ireturn, 1) := by decide +kernel
theorem dX7_stack_90 : decode cX7_stack 90 = .ok (.aload_n 0, 1) := by decide +kernel
theorem dX7_stack_91 : decode cX7_stack 91 = .ok (.invokevirtual 226, 3) := by decide +kernel
theorem dX7_stack_94 : decode cX7_stack 94 = .ok (.aload_n 0, 1) := by decide +kernel
theorem dX7_stack_95 : decode cX7_stack 95 = .ok (.aload_n 0, 1) := by decide +kernel
theorem dX7_stack_96 : decode cX7_stack 96 = .ok (.getfield 13, 3) := by decide +kernel
theorem dX7_stack_99 : decode cX7_stack 99 = .ok (.iconst 0, 1) := by decide +kernel
theorem dX7_stack_100 : decode cX7_stack 100 = .ok (.iaload, 1) := by decide +kernel
theorem dX7_stack_101 : decode cX7_stack 101 = .ok (.iconst 1, 1) := by decide +kernel
theorem dX7_stack_102 : decode cX7_stack 102 = .ok (.iadd, 1) := by decide +kernel
theorem dX7_stack_103 : decode cX7_stack 103 = .ok (.invokevirtual 123, 3) := by decide +kernel
theorem dX7_stack_106 : decode cX7_stack 106 = .ok (.iconst 0, 1) := by decide +kernel
theorem dX7_stack_107 : decode cX7_stack 107 = .ok (.istore 4, 2) := by decide +kernel
theorem dX7_stack_109 : decode cX7_stack 109 = .ok (.iload 4, 2) := by decide +kernel
theorem dX7_stack_111 : decode cX7_stack 111 = .ok (.aload_n 0, 1) := by decide +kernel
theorem dX7_stack_112 : decode cX7_stack 112 = .ok (.getfield 13, 3) := by decide +kernel
theorem dX7_stack_115 : decode cX7_stack 115 = .ok (.iconst 1, 1) := by decide +kernel
theorem dX7_stack_116 : decode cX7_stack 116 = .ok (.iaload, 1) := by decide +kernel
theorem dX7_stack_117 : decode cX7_stack 117 = .ok (.if_icmp .ge 28, 3) := by decide +kernel
theorem dX7_stack_120 : decode cX7_stack 120 = .ok (.iload 4, 2) := by decide +kernel
theorem dX7_stack_122 : decode cX7_stack 122 = .ok (.iload_n 1, 1) := by decide +kernel
theorem dX7_stack_123 : decode cX7_stack 123 = .ok (.if_icmp .eq 16, 3) := by decide +kernel
theorem dX7_stack_126 : decode cX7_stack 126 = .ok (.aload_n 0, 1) := by decide +kernel
theorem dX7_stack_127 : decode cX7_stack 127 = .ok (.aload_n 0, 1) := by decide +kernel
theorem dX7_stack_128 : decode cX7_stack 128 = .ok (.getfield 13, 3) := by decide +kernel
theorem dX7_stack_131 : decode cX7_stack 131 = .ok (.iconst 2, 1) := by decide +kernel
theorem dX7_stack_132 : decode cX7_stack 132 = .ok (.iload 4, 2) := by decide +kernel
theorem dX7_stack_134 : decode cX7_stack 134 = .ok (.iadd, 1) := by decide +kernel
theorem dX7_stack_135 : decode cX7_stack 135 = .ok (.iaload, 1) := by decide +kernel
theorem dX7_stack_136 : decode cX7_stack 136 = .ok (.invokevirtual 130, 3) := by decide +kernel
theorem dX7_stack_139 : decode cX7_stack 139 = .ok (.iinc 4 1, 3) := by decide +kernel
theorem dX7_stack_142 : decode cX7_stack 142 = .ok (.goto (-33), 3) := by decide +kernel
theorem dX7_stack_145 : decode cX7_stack 145 = .ok (.iconst 0, 1) := by decide +kernel
theorem dX7_stack_146 : decode cX7_stack 146 = .ok (.istore 4, 2) := by decide +kernel
theorem dX7_stack_148 : decode cX7_stack 148 = .ok (.iload 4, 2) := by decide +kernel
theorem dX7_stack_150 : decode cX7_stack 150 = .ok (.aload_n 0, 1) := by decide +kernel
theorem dX7_stack_151 : decode cX7_stack 151 = .ok (.getfield 214, 3) := by decide +kernel
theorem dX7_stack_154 : decode cX7_stack 154 = .ok (.if_icmp .ge 39, 3) := by decide +kernel
theorem dX7_stack_157 : decode cX7_stack 157 = .ok (.aload_n 0, 1) := by decide +kernel
theorem dX7_stack_158 : decode cX7_stack 158 = .ok (.iload_n 2, 1) := by decide +kernel
theorem dX7_stack_159 : decode cX7_stack 159 = .ok (.iload 4, 2) := by decide +kernel
theorem dX7_stack_161 : decode cX7_stack 161 = .ok (.invokevirtual 241, 3) := by decide +kernel
theorem dX7_stack_164 : decode cX7_stack 164 = .ok (.ifCond .eq 23, 3) := by decide +kernel
theorem dX7_stack_167 : decode cX7_stack 167 = .ok (.aload_n 0, 1) := by decide +kernel
theorem dX7_stack_168 : decode cX7_stack 168 = .ok (.aload_n 0, 1) := by decide +kernel
theorem dX7_stack_169 : decode cX7_stack 169 = .ok (.getfield 28, 3) := by decide +kernel
theorem dX7_stack_172 : decode cX7_stack 172 = .ok (.iload 4, 2) := by decide +kernel
theorem dX7_stack_174 : decode cX7_stack 174 = .ok (.iaload, 1) := by decide +kernel
theorem dX7_stack_175 : decode cX7_stack 175 = .ok (.iconst 1, 1) := by decide +kernel
theorem dX7_stack_176 : decode cX7_stack 176 = .ok (.aload_n 0, 1) := by decide +kernel
theorem dX7_stack_177 : decode cX7_stack 177 = .ok (.getfield 13, 3) := by decide +kernel
theorem dX7_stack_180 : decode cX7_stack 180 = .ok (.iconst 0, 1) := by decide +kernel
theorem dX7_stack_181 : decode cX7_stack 181 = .ok (.iaload, 1) := by decide +kernel
theorem dX7_stack_182 : decode cX7_stack 182 = .ok (.ishl, 1) := by decide +kernel
theorem dX7_stack_183 : decode cX7_stack 183 = .ok (.ior, 1) := by decide +kernel
theorem dX7_stack_184 : decode cX7_stack 184 = .ok (.invokevirtual 130, 3) := by decide +kernel
theorem dX7_stack_187 : decode cX7_stack 187 = .ok (.iinc 4 1, 3) := by decide +kernel
theorem dX7_stack_190 : decode cX7_stack 190 = .ok (.goto (-42), 3) := by decide +kernel
theorem dX7_stack_193 : decode cX7_stack 193 = .ok (.aload_n 0, 1) := by decide +kernel
theorem dX7_stack_194 : decode cX7_stack 194 = .ok (.invokevirtual 187, 3) := by decide +kernel
theorem dX7_stack_197 : decode cX7_stack 197 = .ok (.aload_n 0, 1) := by decide +kernel
theorem dX7_stack_198 : decode cX7_stack 198 = .ok (.getfield 13, 3) := by decide +kernel
theorem dX7_stack_201 : decode cX7_stack 201 = .ok (.iconst 1, 1) := by decide +kernel
theorem dX7_stack_202 : decode cX7_stack 202 = .ok (.iaload, 1) := by decide +kernel
theorem dX7_stack_203 : decode cX7_stack 203 = .ok (.ireturn, 1) := by decide +kernel
theorem dX7_pointNeighbours_0 : decode cX7_pointNeighbours 0 = .ok (.aload_n 0, 1) := by decide +kernel
theorem dX7_pointNeighbours_1 : decode cX7_pointNeighbours 1 = .ok (.invokevirtual 217, 3) := by decide +kernel
theorem dX7_pointNeighbours_4 : decode cX7_pointNeighbours 4 = .ok (.iconst 0, 1) := by decide +kernel
theorem dX7_pointNeighbours_5 : decode cX7_pointNeighbours 5 = .ok (.istore_n 2, 1) := by decide +kernel
theorem dX7_pointNeighbours_6 : decode cX7_pointNeighbours 6 = .ok (.iconst 0, 1) := by decide +kernel
theorem dX7_pointNeighbours_7 : decode cX7_pointNeighbours 7 = .ok (.istore_n 3, 1) := by decide +kernel
theorem dX7_pointNeighbours_8 : decode cX7_pointNeighbours 8 = .ok (.iload_n 3, 1) := by decide +kernel
theorem dX7_pointNeighbours_9 : decode cX7_pointNeighbours 9 = .ok (.aload_n 0, 1) := by decide +kernel
theorem dX7_pointNeighbours_10 : decode cX7_pointNeighbours 10 = .ok (.getfield 13, 3) := by decide +kernel
theorem dX7_pointNeighbours_13 : decode cX7_pointNeighbours 13 = .ok (.iconst 0, 1) := by decide +kernel
theorem dX7_pointNeighbours_14 : decode cX7_pointNeighbours 14 = .ok (.iaload, 1) := by decide +kernel
theorem dX7_pointNeighbours_15 : decode cX7_pointNeighbours 15 = .ok (.if_icmp .ge 46, 3) := by decide +kernel
theorem dX7_pointNeighbours_18 : decode cX7_pointNeighbours 18 = .ok (.iload_n 2, 1) := by decide +kernel
theorem dX7_pointNeighbours_19 : decode cX7_pointNeighbours 19 = .ok (.iload_n 3, 1) := by decide +kernel
theorem dX7_pointNeighbours_20 : decode cX7_pointNeighbours 20 = .ok (.iload_n 1, 1) := by decide +kernel
theorem dX7_pointNeighbours_21 : decode cX7_pointNeighbours 21 = .ok (.if_icmp .eq 31, 3) := by decide +kernel
theorem dX7_pointNeighbours_24 : decode cX7_pointNeighbours 24 = .ok (.aload_n 0, 1) := by decide +kernel
theorem dX7_pointNeighbours_25 : decode cX7_pointNeighbours 25 = .ok (.getfield 25, 3) := by decide +kernel
theorem dX7_pointNeighbours_28 : decode cX7_pointNeighbours 28 = .ok (.iconst 1, 1) := by decide +kernel
theorem dX7_pointNeighbours_29 : decode cX7_pointNeighbours 29 = .ok (.iload_n 1, 1) := by decide +kernel
theorem dX7_pointNeighbours_30 : decode cX7_pointNeighbours 30 = .ok (.ishl, 1) := by decide +kernel
theorem dX7_pointNeighbours_31 : decode cX7_pointNeighbours 31 = .ok (.iconst 1, 1) := by decide +kernel
theorem dX7_pointNeighbours_32 : decode cX7_pointNeighbours 32 = .ok (.iload_n 3, 1) := by decide +kernel
theorem dX7_pointNeighbours_33 : decode cX7_pointNeighbours 33 = .ok (.ishl, 1) := by decide +kernel
theorem dX7_pointNeighbours_34 : decode cX7_pointNeighbours 34 = .ok (.ior, 1) := by decide +kernel
theorem dX7_pointNeighbours_35 : decode cX7_pointNeighbours 35 = .ok (.iaload, 1) := by decide +kernel
theorem dX7_pointNeighbours_36 : decode cX7_pointNeighbours 36 = .ok (.iconst 1, 1) := by decide +kernel
theorem dX7_pointNeighbours_37 : decode cX7_pointNeighbours 37 = .ok (.iload_n 1, 1) := by decide +kernel
theorem dX7_pointNeighbours_38 : decode cX7_pointNeighbours 38 = .ok (.ishl, 1) := by decide +kernel
theorem dX7_pointNeighbours_39 : decode cX7_pointNeighbours 39 = .ok (.iconst 1, 1) := by decide +kernel
theorem dX7_pointNeighbours_40 : decode cX7_pointNeighbours 40 = .ok (.iload_n 3, 1) := by decide +kernel
theorem dX7_pointNeighbours_41 : decode cX7_pointNeighbours 41 = .ok (.ishl, 1) := by decide +kernel
theorem dX7_pointNeighbours_42 : decode cX7_pointNeighbours 42 = .ok (.ior, 1) := by decide +kernel
theorem dX7_pointNeighbours_43 : decode cX7_pointNeighbours 43 = .ok (.if_icmp .ne 9, 3) := by decide +kernel
theorem dX7_pointNeighbours_46 : decode cX7_pointNeighbours 46 = .ok (.iconst 1, 1) := by decide +kernel
theorem dX7_pointNeighbours_47 : decode cX7_pointNeighbours 47 = .ok (.iload_n 3, 1) := by decide +kernel
theorem dX7_pointNeighbours_48 : decode cX7_pointNeighbours 48 = .ok (.ishl, 1) := by decide +kernel
theorem dX7_pointNeighbours_49 : decode cX7_pointNeighbours 49 = .ok (.goto 4, 3) := by decide +kernel
theorem dX7_pointNeighbours_52 : decode cX7_pointNeighbours 52 = .ok (.iconst 0, 1) := by decide +kernel
theorem dX7_pointNeighbours_53 : decode cX7_pointNeighbours 53 = .ok (.ior, 1) := by decide +kernel
theorem dX7_pointNeighbours_54 : decode cX7_pointNeighbours 54 = .ok (.istore_n 2, 1) := by decide +kernel
theorem dX7_pointNeighbours_55 : decode cX7_pointNeighbours 55 = .ok (.iinc 3 1, 3) := by decide +kernel
theorem dX7_pointNeighbours_58 : decode cX7_pointNeighbours 58 = .ok (.goto (-50), 3) := by decide +kernel
theorem dX7_pointNeighbours_61 : decode cX7_pointNeighbours 61 = .ok (.iload_n 2, 1) := by decide +kernel
theorem dX7_pointNeighbours_62 : decode cX7_pointNeighbours 62 = .ok (.ireturn, 1) := by decide +kernel
theorem dX7_without_0 : decode cX7_without 0 = .ok (.iload_n 0, 1) := by decide +kernel
theorem dX7_without_1 : decode cX7_without 1 = .ok (.iconst 1, 1) := by decide +kernel
theorem dX7_without_2 : decode cX7_without 2 = .ok (.iload_n 1, 1) := by decide +kernel
theorem dX7_without_3 : decode cX7_without 3 = .ok (.ishl, 1) := by decide +kernel
theorem dX7_without_4 : decode cX7_without 4 = .ok (.iconst 1, 1) := by decide +kernel
theorem dX7_without_5 : decode cX7_without 5 = .ok (.isub, 1) := by decide +kernel
theorem dX7_without_6 : decode cX7_without 6 = .ok (.iand, 1) := by decide +kernel
theorem dX7_without_7 : decode cX7_without 7 = .ok (.iload_n 0, 1) := by decide +kernel
theorem dX7_without_8 : decode cX7_without 8 = .ok (.iload_n 1, 1) := by decide +kernel
theorem dX7_without_9 : decode cX7_without 9 = .ok (.iconst 1, 1) := by decide +kernel
theorem dX7_without_10 : decode cX7_without 10 = .ok (.iadd, 1) := by decide +kernel
theorem dX7_without_11 : decode cX7_without 11 = .ok (.ishr, 1) := by decide +kernel
theorem dX7_without_12 : decode cX7_without 12 = .ok (.iload_n 1, 1) := by decide +kernel
theorem dX7_without_13 : decode cX7_without 13 = .ok (.ishl, 1) := by decide +kernel
theorem dX7_without_14 : decode cX7_without 14 = .ok (.ior, 1) := by decide +kernel
theorem dX7_without_15 : decode cX7_without 15 = .ok (.ireturn, 1) := by decide +kernel
theorem dX7_cutOff_0 : decode cX7_cutOff 0 = .ok (.aload_n 0, 1) := by decide +kernel
theorem dX7_cutOff_1 : decode cX7_cutOff 1 = .ok (.iconst 0, 1) := by decide +kernel
theorem dX7_cutOff_2 : decode cX7_cutOff 2 = .ok (.putfield 52, 3) := by decide +kernel
theorem dX7_cutOff_5 : decode cX7_cutOff 5 = .ok (.aload_n 0, 1) := by decide +kernel
theorem dX7_cutOff_6 : decode cX7_cutOff 6 = .ok (.aload_n 0, 1) := by decide +kernel
theorem dX7_cutOff_7 : decode cX7_cutOff 7 = .ok (.iload_n 1, 1) := by decide +kernel
theorem dX7_cutOff_8 : decode cX7_cutOff 8 = .ok (.invokevirtual 220, 3) := by decide +kernel
theorem dX7_cutOff_11 : decode cX7_cutOff 11 = .ok (.iconst 1, 1) := by decide +kernel
theorem dX7_cutOff_12 : decode cX7_cutOff 12 = .ok (.invokevirtual 63, 3) := by decide +kernel
theorem dX7_cutOff_15 : decode cX7_cutOff 15 = .ok (.ifCond .eq 5, 3) := by decide +kernel
theorem dX7_cutOff_18 : decode cX7_cutOff 18 = .ok (.iconst 0, 1) := by decide +kernel
theorem dX7_cutOff_19 : decode cX7_cutOff 19 = .ok (.ireturn, 1) := by decide +kernel
theorem dX7_cutOff_20 : decode cX7_cutOff 20 = .ok (.aload_n 0, 1) := by decide +kernel
theorem dX7_cutOff_21 : decode cX7_cutOff 21 = .ok (.iload_n 1, 1) := by decide +kernel
theorem dX7_cutOff_22 : decode cX7_cutOff 22 = .ok (.invokevirtual 248, 3) := by decide +kernel
theorem dX7_cutOff_25 : decode cX7_cutOff 25 = .ok (.istore_n 2, 1) := by decide +kernel
theorem dX7_cutOff_26 : decode cX7_cutOff 26 = .ok (.iload_n 2, 1) := by decide +kernel
theorem dX7_cutOff_27 : decode cX7_cutOff 27 = .ok (.invokestatic 251, 3) := by decide +kernel
theorem dX7_cutOff_30 : decode cX7_cutOff 30 = .ok (.istore_n 3, 1) := by decide +kernel
theorem dX7_cutOff_31 : decode cX7_cutOff 31 = .ok (.aload_n 0, 1) := by decide +kernel
theorem dX7_cutOff_32 : decode cX7_cutOff 32 = .ok (.iload_n 3, 1) := by decide +kernel
theorem dX7_cutOff_33 : decode cX7_cutOff 33 = .ok (.ifCond .le 33, 3) := by decide +kernel
theorem dX7_cutOff_36 : decode cX7_cutOff 36 = .ok (.aload_n 0, 1) := by decide +kernel
theorem dX7_cutOff_37 : decode cX7_cutOff 37 = .ok (.getfield 13, 3) := by decide +kernel
theorem dX7_cutOff_40 : decode cX7_cutOff 40 = .ok (.iconst 0, 1) := by decide +kernel
theorem dX7_cutOff_41 : decode cX7_cutOff 41 = .ok (.iaload, 1) := by decide +kernel
theorem dX7_cutOff_42 : decode cX7_cutOff 42 = .ok (.iconst 1, 1) := by decide +kernel
theorem dX7_cutOff_43 : decode cX7_cutOff 43 = .ok (.isub, 1) := by decide +kernel
theorem dX7_cutOff_44 : decode cX7_cutOff 44 = .ok (.iload_n 3, 1) := by decide +kernel
theorem dX7_cutOff_45 : decode cX7_cutOff 45 = .ok (.iadd, 1) := by decide +kernel
theorem dX7_cutOff_46 : decode cX7_cutOff 46 = .ok (.bipush 8, 2) := by decide +kernel
theorem dX7_cutOff_48 : decode cX7_cutOff 48 = .ok (.if_icmp .gt 18, 3) := by decide +kernel
theorem dX7_cutOff_51 : decode cX7_cutOff 51 = .ok (.aload_n 0, 1) := by decide +kernel
theorem dX7_cutOff_52 : decode cX7_cutOff 52 = .ok (.getfield 13, 3) := by decide +kernel
theorem dX7_cutOff_55 : decode cX7_cutOff 55 = .ok (.iconst 1, 1) := by decide +kernel
theorem dX7_cutOff_56 : decode cX7_cutOff 56 = .ok (.iaload, 1) := by decide +kernel
theorem dX7_cutOff_57 : decode cX7_cutOff 57 = .ok (.bipush 10, 2) := by decide +kernel
theorem dX7_cutOff_59 : decode cX7_cutOff 59 = .ok (.if_icmp .ge 7, 3) := by decide +kernel
theorem dX7_cutOff_62 : decode cX7_cutOff 62 = .ok (.iconst 1, 1) := by decide +kernel
theorem dX7_cutOff_63 : decode cX7_cutOff 63 = .ok (.goto 4, 3) := by decide +kernel
theorem dX7_cutOff_66 : decode cX7_cutOff 66 = .ok (.iconst 0, 1) := by decide +kernel
theorem dX7_cutOff_67 : decode cX7_cutOff 67 = .ok (.iconst 2, 1) := by decide +kernel
theorem dX7_cutOff_68 : decode cX7_cutOff 68 = .ok (.invokevirtual 63, 3) := by decide +kernel
theorem dX7_cutOff_71 : decode cX7_cutOff 71 = .ok (.ifCond .eq 5, 3) := by decide +kernel
theorem dX7_cutOff_74 : decode cX7_cutOff 74 = .ok (.iconst 0, 1) := by decide +kernel
theorem dX7_cutOff_75 : decode cX7_cutOff 75 = .ok (.ireturn, 1) := by decide +kernel
theorem dX7_cutOff_76 : decode cX7_cutOff 76 = .ok (.aload_n 0, 1) := by decide +kernel
theorem dX7_cutOff_77 : decode cX7_cutOff 77 = .ok (.invokevirtual 226, 3) := by decide +kernel
theorem dX7_cutOff_80 : decode cX7_cutOff 80 = .ok (.aload_n 0, 1) := by decide +kernel
theorem dX7_cutOff_81 : decode cX7_cutOff 81 = .ok (.getfield 13, 3) := by decide +kernel
theorem dX7_cutOff_84 : decode cX7_cutOff 84 = .ok (.iconst 0, 1) := by decide +kernel
theorem dX7_cutOff_85 : decode cX7_cutOff 85 = .ok (.iaload, 1) := by decide +kernel
theorem dX7_cutOff_86 : decode cX7_cutOff 86 = .ok (.iconst 1, 1) := by decide +kernel
theorem dX7_cutOff_87 : decode cX7_cutOff 87 = .ok (.isub, 1) := by decide +kernel
theorem dX7_cutOff_88 : decode cX7_cutOff 88 = .ok (.istore 4, 2) := by decide +kernel
theorem dX7_cutOff_90 : decode cX7_cutOff 90 = .ok (.aload_n 0, 1) := by decide +kernel
theorem dX7_cutOff_91 : decode cX7_cutOff 91 = .ok (.iload 4, 2) := by decide +kernel
theorem dX7_cutOff_93 : decode cX7_cutOff 93 = .ok (.iload_n 3, 1) := by decide +kernel
theorem dX7_cutOff_94 : decode cX7_cutOff 94 = .ok (.iadd, 1) := by decide +kernel
theorem dX7_cutOff_95 : decode cX7_cutOff 95 = .ok (.invokevirtual 123, 3) := by decide +kernel
theorem dX7_cutOff_98 : decode cX7_cutOff 98 = .ok (.iconst 0, 1) := by decide +kernel
theorem dX7_cutOff_99 : decode cX7_cutOff 99 = .ok (.istore 5, 2) := by decide +kernel
theorem dX7_cutOff_101 : decode cX7_cutOff 101 = .ok (.iload 5, 2) := by decide +kernel
theorem dX7_cutOff_103 : decode cX7_cutOff 103 = .ok (.aload_n 0, 1) := by decide +kernel
theorem dX7_cutOff_104 : decode cX7_cutOff 104 = .ok (.getfield 13, 3) := by decide +kernel
theorem dX7_cutOff_107 : decode cX7_cutOff 107 = .ok (.iconst 1, 1) := by decide +kernel
theorem dX7_cutOff_108 : decode cX7_cutOff 108 = .ok (.iaload, 1) := by decide +kernel
theorem dX7_cutOff_109 : decode cX7_cutOff 109 = .ok (.if_icmp .ge 98, 3) := by decide +kernel
theorem dX7_cutOff_112 : decode cX7_cutOff 112 = .ok (.aload_n 0, 1) := by decide +kernel
theorem dX7_cutOff_113 : decode cX7_cutOff 113 = .ok (.getfield 13, 3) := by decide +kernel
theorem dX7_cutOff_116 : decode cX7_cutOff 116 = .ok (.iconst 2, 1) := by decide +kernel
theorem dX7_cutOff_117 : decode cX7_cutOff 117 = .ok (.iload 5, 2) := by decide +kernel
theorem dX7_cutOff_119 : decode cX7_cutOff 119 = .ok (.iadd, 1) := by decide +kernel
theorem dX7_cutOff_120 : decode cX7_cutOff 120 = .ok (.iaload, 1) := by decide +kernel
theorem dX7_cutOff_121 : decode cX7_cutOff 121 = .ok (.istore 6, 2) := by decide +kernel
theorem dX7_cutOff_123 : decode cX7_cutOff 123 = .ok (.iload 6, 2) := by decide +kernel
theorem dX7_cutOff_125 : decode cX7_cutOff 125 = .ok (.iload_n 1, 1) := by decide +kernel
theorem dX7_cutOff_126 : decode cX7_cutOff 126 = .ok (.invokestatic 254, 3) := by decide +kernel
theorem dX7_cutOff_129 : decode cX7_cutOff 129 = .ok (.istore 7, 2) := by decide +kernel
theorem dX7_cutOff_131 : decode cX7_cutOff 131 = .ok (.iload 4, 2) := by decide +kernel
theorem dX7_cutOff_133 : decode cX7_cutOff 133 = .ok (.istore 8, 2) := by decide +kernel
theorem dX7_cutOff_135 : decode cX7_cutOff 135 = .ok (.iconst 0, 1) := by decide +kernel
theorem dX7_cutOff_136 : decode cX7_cutOff 136 = .ok (.istore 9, 2) := by decide +kernel
theorem dX7_cutOff_138 : decode cX7_cutOff 138 = .ok (.iload 9, 2) := by decide +kernel
theorem dX7_cutOff_140 : decode cX7_cutOff 140 = .ok (.bipush 8, 2) := by decide +kernel
theorem dX7_cutOff_142 : decode cX7_cutOff 142 = .ok (.if_icmp .ge 53, 3) := by decide +kernel
theorem dX7_cutOff_145 : decode cX7_cutOff 145 = .ok (.iload_n 2, 1) := by decide +kernel
theorem dX7_cutOff_146 : decode cX7_cutOff 146 = .ok (.iload 9, 2) := by decide +kernel
theorem dX7_cutOff_148 : decode cX7_cutOff 148 = .ok (.invokestatic 165, 3) := by decide +kernel
theorem dX7_cutOff_151 : decode cX7_cutOff 151 = .ok (.ifCond .eq 38, 3) := by decide +kernel
theorem dX7_cutOff_154 : decode cX7_cutOff 154 = .ok (.iload 7, 2) := by decide +kernel
theorem dX7_cutOff_156 : decode cX7_cutOff 156 = .ok (.iload 6, 2) := by decide +kernel
theorem dX7_cutOff_158 : decode cX7_cutOff 158 = .ok (.iload_n 1, 1) := by decide +kernel
theorem dX7_cutOff_159 : decode cX7_cutOff 159 = .ok (.invokestatic 165, 3) := by decide +kernel
theorem dX7_cutOff_162 : decode cX7_cutOff 162 = .ok (.ifCond .eq 20, 3) := by decide +kernel
theorem dX7_cutOff_165 : decode cX7_cutOff 165 = .ok (.iload 6, 2) := by decide +kernel
theorem dX7_cutOff_167 : decode cX7_cutOff 167 = .ok (.iload 9, 2) := by decide +kernel
theorem dX7_cutOff_169 : decode cX7_cutOff 169 = .ok (.invokestatic 165, 3) := by decide +kernel
theorem dX7_cutOff_172 : decode cX7_cutOff 172 = .ok (.ifCond .eq 10, 3) := by decide +kernel
theorem dX7_cutOff_175 : decode cX7_cutOff 175 = .ok (.iconst 1, 1) := by decide +kernel
theorem dX7_cutOff_176 : decode cX7_cutOff 176 = .ok (.iload 8, 2) := by decide +kernel
theorem dX7_cutOff_178 : decode cX7_cutOff 178 = .ok (.ishl, 1) := by decide +kernel
theorem dX7_cutOff_179 : decode cX7_cutOff 179 = .ok (.goto 4, 3) := by decide +kernel
theorem dX7_cutOff_182 : decode cX7_cutOff 182 = .ok (.iconst 0, 1) := by decide +kernel
theorem dX7_cutOff_183 : decode cX7_cutOff 183 = .ok (.ior, 1) := by decide +kernel
theorem dX7_cutOff_184 : decode cX7_cutOff 184 = .ok (.istore 7, 2) := by decide +kernel
theorem dX7_cutOff_186 : decode cX7_cutOff 186 = .ok (.iinc 8 1, 3) := by decide +kernel
theorem dX7_cutOff_189 : decode cX7_cutOff 189 = .ok (.iinc 9 1, 3) := by decide +kernel
theorem dX7_cutOff_192 : decode cX7_cutOff 192 = .ok (.goto (-54), 3) := by decide +kernel
theorem dX7_cutOff_195 : decode cX7_cutOff 195 = .ok (.aload_n 0, 1) := by decide +kernel
theorem dX7_cutOff_196 : decode cX7_cutOff 196 = .ok (.iload 7, 2) := by decide +kernel
theorem dX7_cutOff_198 : decode cX7_cutOff 198 = .ok (.invokevirtual 130, 3) := by decide +kernel
theorem dX7_cutOff_201 : decode cX7_cutOff 201 = .ok (.iinc 5 1, 3) := by decide +kernel
theorem dX7_cutOff_204 : decode cX7_cutOff 204 = .ok (.goto (-103), 3) := by decide +kernel
theorem dX7_cutOff_207 : decode cX7_cutOff 207 = .ok (.aload_n 0, 1) := by decide +kernel
theorem dX7_cutOff_208 : decode cX7_cutOff 208 = .ok (.iload 4, 2) := by decide +kernel
theorem dX7_cutOff_210 : decode cX7_cutOff 210 = .ok (.iload_n 3, 1) := by decide +kernel
theorem dX7_cutOff_211 : decode cX7_cutOff 211 = .ok (.iadd, 1) := by decide +kernel
theorem dX7_cutOff_212 : decode cX7_cutOff 212 = .ok (.invokestatic 127, 3) := by decide +kernel
theorem dX7_cutOff_215 : decode cX7_cutOff 215 = .ok (.iload 4, 2) := by decide +kernel
theorem dX7_cutOff_217 : decode cX7_cutOff 217 = .ok (.invokestatic 127, 3) := by decide +kernel
theorem dX7_cutOff_220 : decode cX7_cutOff 220 = .ok (.iconst (-1), 1) := by decide +kernel
theorem dX7_cutOff_221 : decode cX7_cutOff 221 = .ok (.ixor, 1) := by decide +kernel
theorem dX7_cutOff_222 : decode cX7_cutOff 222 = .ok (.iand, 1) := by decide +kernel
theorem dX7_cutOff_223 : decode cX7_cutOff 223 = .ok (.invokevirtual 130, 3) := by decide +kernel
theorem dX7_cutOff_226 : decode cX7_cutOff 226 = .ok (.aload_n 0, 1) := by decide +kernel
theorem dX7_cutOff_227 : decode cX7_cutOff 227 = .ok (.invokevirtual 187, 3) := by decide +kernel
theorem dX7_cutOff_230 : decode cX7_cutOff 230 = .ok (.aload_n 0, 1) := by decide +kernel
theorem dX7_cutOff_231 : decode cX7_cutOff 231 = .ok (.getfield 13, 3) := by decide +kernel
theorem dX7_cutOff_234 : decode cX7_cutOff 234 = .ok (.iconst 0, 1) := by decide +kernel
theorem dX7_cutOff_235 : decode cX7_cutOff 235 = .ok (.iaload, 1) := by decide +kernel
theorem dX7_cutOff_236 : decode cX7_cutOff 236 = .ok (.ireturn, 1) := by decide +kernel
theorem dX7_within_0 : decode cX7_within 0 = .ok (.iconst 0, 1) := by decide +kernel
theorem dX7_within_1 : decode cX7_within 1 = .ok (.istore_n 2, 1) := by decide +kernel
theorem dX7_within_2 : decode cX7_within 2 = .ok (.iconst 0, 1) := by decide +kernel
theorem dX7_within_3 : decode cX7_within 3 = .ok (.istore_n 3, 1) := by decide +kernel
theorem dX7_within_4 : decode cX7_within 4 = .ok (.iconst 0, 1) := by decide +kernel
theorem dX7_within_5 : decode cX7_within 5 = .ok (.istore 4, 2) := by decide +kernel
theorem dX7_within_7 : decode cX7_within 7 = .ok (.iload 4, 2) := by decide +kernel
theorem dX7_within_9 : decode cX7_within 9 = .ok (.bipush 8, 2) := by decide +kernel
theorem dX7_within_11 : decode cX7_within 11 = .ok (.if_icmp .ge 40, 3) := by decide +kernel
theorem dX7_within_14 : decode cX7_within 14 = .ok (.iload_n 1, 1) := by decide +kernel
theorem dX7_within_15 : decode cX7_within 15 = .ok (.iload 4, 2) := by decide +kernel
theorem dX7_within_17 : decode cX7_within 17 = .ok (.invokestatic 165, 3) := by decide +kernel
theorem dX7_within_20 : decode cX7_within 20 = .ok (.ifCond .eq 25, 3) := by decide +kernel
theorem dX7_within_23 : decode cX7_within 23 = .ok (.iload_n 2, 1) := by decide +kernel
theorem dX7_within_24 : decode cX7_within 24 = .ok (.iload_n 0, 1) := by decide +kernel
theorem dX7_within_25 : decode cX7_within 25 = .ok (.iload 4, 2) := by decide +kernel
theorem dX7_within_27 : decode cX7_within 27 = .ok (.invokestatic 165, 3) := by decide +kernel
theorem dX7_within_30 : decode cX7_within 30 = .ok (.ifCond .eq 9, 3) := by decide +kernel
theorem dX7_within_33 : decode cX7_within 33 = .ok (.iconst 1, 1) := by decide +kernel
theorem dX7_within_34 : decode cX7_within 34 = .ok (.iload_n 3, 1) := by decide +kernel
theorem dX7_within_35 : decode cX7_within 35 = .ok (.ishl, 1) := by decide +kernel
theorem dX7_within_36 : decode cX7_within 36 = .ok (.goto 4, 3) := by decide +kernel
theorem dX7_within_39 : decode cX7_within 39 = .ok (.iconst 0, 1) := by decide +kernel
theorem dX7_within_40 : decode cX7_within 40 = .ok (.ior, 1) := by decide +kernel
theorem dX7_within_41 : decode cX7_within 41 = .ok (.istore_n 2, 1) := by decide +kernel
theorem dX7_within_42 : decode cX7_within 42 = .ok (.iinc 3 1, 3) := by decide +kernel
theorem dX7_within_45 : decode cX7_within 45 = .ok (.iinc 4 1, 3) := by decide +kernel
theorem dX7_within_48 : decode cX7_within 48 = .ok (.goto (-41), 3) := by decide +kernel
theorem dX7_within_51 : decode cX7_within 51 = .ok (.iload_n 2, 1) := by decide +kernel
theorem dX7_within_52 : decode cX7_within 52 = .ok (.ireturn, 1) := by decide +kernel
theorem dX7_keepFace_0 : decode cX7_keepFace 0 = .ok (.aload_n 0, 1) := by decide +kernel
theorem dX7_keepFace_1 : decode cX7_keepFace 1 = .ok (.iconst 0, 1) := by decide +kernel
theorem dX7_keepFace_2 : decode cX7_keepFace 2 = .ok (.putfield 52, 3) := by decide +kernel
theorem dX7_keepFace_5 : decode cX7_keepFace 5 = .ok (.aload_n 0, 1) := by decide +kernel
theorem dX7_keepFace_6 : decode cX7_keepFace 6 = .ok (.aload_n 0, 1) := by decide +kernel
theorem dX7_keepFace_7 : decode cX7_keepFace 7 = .ok (.iload_n 1, 1) := by decide +kernel
theorem dX7_keepFace_8 : decode cX7_keepFace 8 = .ok (.invokevirtual 257, 3) := by decide +kernel
theorem dX7_keepFace_11 : decode cX7_keepFace 11 = .ok (.iconst 1, 1) := by decide +kernel
theorem dX7_keepFace_12 : decode cX7_keepFace 12 = .ok (.invokevirtual 63, 3) := by decide +kernel
theorem dX7_keepFace_15 : decode cX7_keepFace 15 = .ok (.ifCond .ne 36, 3) := by decide +kernel
theorem dX7_keepFace_18 : decode cX7_keepFace 18 = .ok (.aload_n 0, 1) := by decide +kernel
theorem dX7_keepFace_19 : decode cX7_keepFace 19 = .ok (.aload_n 0, 1) := by decide +kernel
theorem dX7_keepFace_20 : decode cX7_keepFace 20 = .ok (.getfield 28, 3) := by decide +kernel
theorem dX7_keepFace_23 : decode cX7_keepFace 23 = .ok (.iload_n 1, 1) := by decide +kernel
theorem dX7_keepFace_24 : decode cX7_keepFace 24 = .ok (.iaload, 1) := by decide +kernel
theorem dX7_keepFace_25 : decode cX7_keepFace 25 = .ok (.ifCond .eq 18, 3) := by decide +kernel
theorem dX7_keepFace_28 : decode cX7_keepFace 28 = .ok (.aload_n 0, 1) := by decide +kernel
theorem dX7_keepFace_29 : decode cX7_keepFace 29 = .ok (.iload_n 1, 1) := by decide +kernel
theorem dX7_keepFace_30 : decode cX7_keepFace 30 = .ok (.iconst 0, 1) := by decide +kernel
theorem dX7_keepFace_31 : decode cX7_keepFace 31 = .ok (.invokevirtual 244, 3) := by decide +kernel
theorem dX7_keepFace_34 : decode cX7_keepFace 34 = .ok (.bipush 10, 2) := by decide +kernel
theorem dX7_keepFace_36 : decode cX7_keepFace 36 = .ok (.if_icmp .gt 7, 3) := by decide +kernel
theorem dX7_keepFace_39 : decode cX7_keepFace 39 = .ok (.iconst 1, 1) := by decide +kernel
theorem dX7_keepFace_40 : decode cX7_keepFace 40 = .ok (.goto 4, 3) := by decide +kernel
theorem dX7_keepFace_43 : decode cX7_keepFace 43 = .ok (.iconst 0, 1) := by decide +kernel
theorem dX7_keepFace_44 : decode cX7_keepFace 44 = .ok (.iconst 2, 1) := by decide +kernel
theorem dX7_keepFace_45 : decode cX7_keepFace 45 = .ok (.invokevirtual 63, 3) := by decide +kernel
theorem dX7_keepFace_48 : decode cX7_keepFace 48 = .ok (.ifCond .eq 5, 3) := by decide +kernel
theorem dX7_keepFace_51 : decode cX7_keepFace 51 = .ok (.iconst 0, 1) := by decide +kernel
theorem dX7_keepFace_52 : decode cX7_keepFace 52 = .ok (.ireturn, 1) := by decide +kernel
theorem dX7_keepFace_53 : decode cX7_keepFace 53 = .ok (.aload_n 0, 1) := by decide +kernel
theorem dX7_keepFace_54 : decode cX7_keepFace 54 = .ok (.invokevirtual 226, 3) := by decide +kernel
theorem dX7_keepFace_57 : decode cX7_keepFace 57 = .ok (.aload_n 0, 1) := by decide +kernel
theorem dX7_keepFace_58 : decode cX7_keepFace 58 = .ok (.aload_n 0, 1) := by decide +kernel
theorem dX7_keepFace_59 : decode cX7_keepFace 59 = .ok (.getfield 28, 3) := by decide +kernel
theorem dX7_keepFace_62 : decode cX7_keepFace 62 = .ok (.iload_n 1, 1) := by decide +kernel
theorem dX7_keepFace_63 : decode cX7_keepFace 63 = .ok (.iaload, 1) := by decide +kernel
theorem dX7_keepFace_64 : decode cX7_keepFace 64 = .ok (.invokestatic 251, 3) := by decide +kernel
theorem dX7_keepFace_67 : decode cX7_keepFace 67 = .ok (.invokevirtual 123, 3) := by decide +kernel
theorem dX7_keepFace_70 : decode cX7_keepFace 70 = .ok (.iconst 0, 1) := by decide +kernel
theorem dX7_keepFace_71 : decode cX7_keepFace 71 = .ok (.istore_n 2, 1) := by decide +kernel
theorem dX7_keepFace_72 : decode cX7_keepFace 72 = .ok (.iload_n 2, 1) := by decide +kernel
theorem dX7_keepFace_73 : decode cX7_keepFace 73 = .ok (.aload_n 0, 1) := by decide +kernel
theorem dX7_keepFace_74 : decode cX7_keepFace 74 = .ok (.getfield 214, 3) := by decide +kernel
theorem dX7_keepFace_77 : decode cX7_keepFace 77 = .ok (.if_icmp .ge 37, 3) := by decide +kernel
theorem dX7_keepFace_80 : decode cX7_keepFace 80 = .ok (.aload_n 0, 1) := by decide +kernel
theorem dX7_keepFace_81 : decode cX7_keepFace 81 = .ok (.iload_n 1, 1) := by decide +kernel
theorem dX7_keepFace_82 : decode cX7_keepFace 82 = .ok (.iload_n 2, 1) := by decide +kernel
theorem dX7_keepFace_83 : decode cX7_keepFace 83 = .ok (.invokevirtual 241, 3) := by decide +kernel
theorem dX7_keepFace_86 : decode cX7_keepFace 86 = .ok (.ifCond .eq 22, 3) := by decide +kernel
theorem dX7_keepFace_89 : decode cX7_keepFace 89 = .ok (.aload_n 0, 1) := by decide +kernel
theorem dX7_keepFace_90 : decode cX7_keepFace 90 = .ok (.aload_n 0, 1) := by decide +kernel
theorem dX7_keepFace_91 : decode cX7_keepFace 91 = .ok (.getfield 28, 3) := by decide +kernel
theorem dX7_keepFace_94 : decode cX7_keepFace 94 = .ok (.iload_n 2, 1) := by decide +kernel
theorem dX7_keepFace_95 : decode cX7_keepFace 95 = .ok (.iaload, 1) := by decide +kernel
theorem dX7_keepFace_96 : decode cX7_keepFace 96 = .ok (.aload_n 0, 1) := by decide +kernel
theorem dX7_keepFace_97 : decode cX7_keepFace 97 = .ok (.getfield 28, 3) := by decide +kernel
theorem dX7_keepFace_100 : decode cX7_keepFace 100 = .ok (.iload_n 1, 1) := by decide +kernel
theorem dX7_keepFace_101 : decode cX7_keepFace 101 = .ok (.iaload, 1) := by decide +kernel
theorem dX7_keepFace_102 : decode cX7_keepFace 102 = .ok (.invokestatic 260, 3) := by decide +kernel
theorem dX7_keepFace_105 : decode cX7_keepFace 105 = .ok (.invokevirtual 130, 3) := by decide +kernel
theorem dX7_keepFace_108 : decode cX7_keepFace 108 = .ok (.iinc 2 1, 3) := by decide +kernel
theorem dX7_keepFace_111 : decode cX7_keepFace 111 = .ok (.goto (-39), 3) := by decide +kernel
theorem dX7_keepFace_114 : decode cX7_keepFace 114 = .ok (.aload_n 0, 1) := by decide +kernel
theorem dX7_keepFace_115 : decode cX7_keepFace 115 = .ok (.invokevirtual 187, 3) := by decide +kernel
theorem dX7_keepFace_118 : decode cX7_keepFace 118 = .ok (.aload_n 0, 1) := by decide +kernel
theorem dX7_keepFace_119 : decode cX7_keepFace 119 = .ok (.getfield 13, 3) := by decide +kernel
theorem dX7_keepFace_122 : decode cX7_keepFace 122 = .ok (.iconst 1, 1) := by decide +kernel
theorem dX7_keepFace_123 : decode cX7_keepFace 123 = .ok (.iaload, 1) := by decide +kernel
theorem dX7_keepFace_124 : decode cX7_keepFace 124 = .ok (.ireturn, 1) := by decide +kernel
theorem dX7_figure_0 : decode cX7_figure 0 = .ok (.aload_n 0, 1) := by decide +kernel
theorem dX7_figure_1 : decode cX7_figure 1 = .ok (.iconst 0, 1) := by decide +kernel
theorem dX7_figure_2 : decode cX7_figure 2 = .ok (.putfield 52, 3) := by decide +kernel
theorem dX7_figure_5 : decode cX7_figure 5 = .ok (.aload_n 0, 1) := by decide +kernel
theorem dX7_figure_6 : decode cX7_figure 6 = .ok (.aload_n 0, 1) := by decide +kernel
theorem dX7_figure_7 : decode cX7_figure 7 = .ok (.iload_n 1, 1) := by decide +kernel
theorem dX7_figure_8 : decode cX7_figure 8 = .ok (.invokevirtual 220, 3) := by decide +kernel
theorem dX7_figure_11 : decode cX7_figure 11 = .ok (.iconst 1, 1) := by decide +kernel
theorem dX7_figure_12 : decode cX7_figure 12 = .ok (.invokevirtual 63, 3) := by decide +kernel
theorem dX7_figure_15 : decode cX7_figure 15 = .ok (.ifCond .eq 5, 3) := by decide +kernel
theorem dX7_figure_18 : decode cX7_figure 18 = .ok (.iconst 0, 1) := by decide +kernel
theorem dX7_figure_19 : decode cX7_figure 19 = .ok (.ireturn, 1) := by decide +kernel
theorem dX7_figure_20 : decode cX7_figure 20 = .ok (.aload_n 0, 1) := by decide +kernel
theorem dX7_figure_21 : decode cX7_figure 21 = .ok (.invokevirtual 217, 3) := by decide +kernel
theorem dX7_figure_24 : decode cX7_figure 24 = .ok (.aload_n 0, 1) := by decide +kernel
theorem dX7_figure_25 : decode cX7_figure 25 = .ok (.getfield 34, 3) := by decide +kernel
theorem dX7_figure_28 : decode cX7_figure 28 = .ok (.aload_n 0, 1) := by decide +kernel
theorem dX7_figure_29 : decode cX7_figure 29 = .ok (.getfield 25, 3) := by decide +kernel
theorem dX7_figure_32 : decode cX7_figure 32 = .ok (.iconst 1, 1) := by decide +kernel
theorem dX7_figure_33 : decode cX7_figure 33 = .ok (.iload_n 1, 1) := by decide +kernel
theorem dX7_figure_34 : decode cX7_figure 34 = .ok (.ishl, 1) := by decide +kernel
theorem dX7_figure_35 : decode cX7_figure 35 = .ok (.iaload, 1) := by decide +kernel
theorem dX7_figure_36 : decode cX7_figure 36 = .ok (.iaload, 1) := by decide +kernel
theorem dX7_figure_37 : decode cX7_figure 37 = .ok (.istore_n 2, 1) := by decide +kernel
theorem dX7_figure_38 : decode cX7_figure 38 = .ok (.aload_n 0, 1) := by decide +kernel
theorem dX7_figure_39 : decode cX7_figure 39 = .ok (.iload_n 2, 1) := by decide +kernel
theorem dX7_figure_40 : decode cX7_figure 40 = .ok (.iconst 1, 1) := by decide +kernel
theorem dX7_figure_41 : decode cX7_figure 41 = .ok (.invokevirtual 244, 3) := by decide +kernel
theorem dX7_figure_44 : decode cX7_figure 44 = .ok (.istore_n 3, 1) := by decide +kernel
theorem dX7_figure_45 : decode cX7_figure 45 = .ok (.aload_n 0, 1) := by decide +kernel
theorem dX7_figure_46 : decode cX7_figure 46 = .ok (.iload_n 3, 1) := by decide +kernel
theorem dX7_figure_47 : decode cX7_figure 47 = .ok (.iconst 1, 1) := by decide +kernel
theorem dX7_figure_48 : decode cX7_figure 48 = .ok (.bipush 8, 2) := by decide +kernel
theorem dX7_figure_50 : decode cX7_figure 50 = .ok (.invokestatic 67, 3) := by decide +kernel
theorem dX7_figure_53 : decode cX7_figure 53 = .ok (.iconst 2, 1) := by decide +kernel
theorem dX7_figure_54 : decode cX7_figure 54 = .ok (.invokevirtual 63, 3) := by decide +kernel
theorem dX7_figure_57 : decode cX7_figure 57 = .ok (.ifCond .eq 5, 3) := by decide +kernel
theorem dX7_figure_60 : decode cX7_figure 60 = .ok (.iconst 0, 1) := by decide +kernel
theorem dX7_figure_61 : decode cX7_figure 61 = .ok (.ireturn, 1) := by decide +kernel
theorem dX7_figure_62 : decode cX7_figure 62 = .ok (.aload_n 0, 1) := by decide +kernel
theorem dX7_figure_63 : decode cX7_figure 63 = .ok (.invokevirtual 226, 3) := by decide +kernel
theorem dX7_figure_66 : decode cX7_figure 66 = .ok (.aload_n 0, 1) := by decide +kernel
theorem dX7_figure_67 : decode cX7_figure 67 = .ok (.iload_n 3, 1) := by decide +kernel
theorem dX7_figure_68 : decode cX7_figure 68 = .ok (.invokevirtual 123, 3) := by decide +kernel
theorem dX7_figure_71 : decode cX7_figure 71 = .ok (.iconst 0, 1) := by decide +kernel
theorem dX7_figure_72 : decode cX7_figure 72 = .ok (.istore 4, 2) := by decide +kernel
theorem dX7_figure_74 : decode cX7_figure 74 = .ok (.iload 4, 2) := by decide +kernel
theorem dX7_figure_76 : decode cX7_figure 76 = .ok (.aload_n 0, 1) := by decide +kernel
theorem dX7_figure_77 : decode cX7_figure 77 = .ok (.getfield 13, 3) := by decide +kernel
theorem dX7_figure_80 : decode cX7_figure 80 = .ok (.iconst 1, 1) := by decide +kernel
theorem dX7_figure_81 : decode cX7_figure 81 = .ok (.iaload, 1) := by decide +kernel
theorem dX7_figure_82 : decode cX7_figure 82 = .ok (.if_icmp .ge 103, 3) := by decide +kernel
theorem dX7_figure_85 : decode cX7_figure 85 = .ok (.aload_n 0, 1) := by decide +kernel
theorem dX7_figure_86 : decode cX7_figure 86 = .ok (.getfield 13, 3) := by decide +kernel
theorem dX7_figure_89 : decode cX7_figure 89 = .ok (.iconst 2, 1) := by decide +kernel
theorem dX7_figure_90 : decode cX7_figure 90 = .ok (.iload 4, 2) := by decide +kernel
theorem dX7_figure_92 : decode cX7_figure 92 = .ok (.iadd, 1) := by decide +kernel
theorem dX7_figure_93 : decode cX7_figure 93 = .ok (.iaload, 1) := by decide +kernel
theorem dX7_figure_94 : decode cX7_figure 94 = .ok (.iload_n 1, 1) := by decide +kernel
theorem dX7_figure_95 : decode cX7_figure 95 = .ok (.invokestatic 165, 3) := by decide +kernel
theorem dX7_figure_98 : decode cX7_figure 98 = .ok (.ifCond .eq 81, 3) := by decide +kernel
theorem dX7_figure_101 : decode cX7_figure 101 = .ok (.iconst 0, 1) := by decide +kernel
theorem dX7_figure_102 : decode cX7_figure 102 = .ok (.istore 5, 2) := by decide +kernel
theorem dX7_figure_104 : decode cX7_figure 104 = .ok (.iconst 0, 1) := by decide +kernel
theorem dX7_figure_105 : decode cX7_figure 105 = .ok (.istore 6, 2) := by decide +kernel
theorem dX7_figure_107 : decode cX7_figure 107 = .ok (.iconst 0, 1) := by decide +kernel
theorem dX7_figure_108 : decode cX7_figure 108 = .ok (.istore 7, 2) := by decide +kernel
theorem dX7_figure_110 : decode cX7_figure 110 = .ok (.iload 7, 2) := by decide +kernel
theorem dX7_figure_112 : decode cX7_figure 112 = .ok (.aload_n 0, 1) := by decide +kernel
theorem dX7_figure_113 : decode cX7_figure 113 = .ok (.getfield 214, 3) := by decide +kernel
theorem dX7_figure_116 : decode cX7_figure 116 = .ok (.if_icmp .ge 57, 3) := by decide +kernel
theorem dX7_figure_119 : decode cX7_figure 119 = .ok (.aload_n 0, 1) := by decide +kernel
theorem dX7_figure_120 : decode cX7_figure 120 = .ok (.iload 7, 2) := by decide +kernel
theorem dX7_figure_122 : decode cX7_figure 122 = .ok (.iload_n 2, 1) := by decide +kernel
theorem dX7_figure_123 : decode cX7_figure 123 = .ok (.invokevirtual 241, 3) := by decide +kernel
theorem dX7_figure_126 : decode cX7_figure 126 = .ok (.ifCond .eq 41, 3) := by decide +kernel
theorem dX7_figure_129 : decode cX7_figure 129 = .ok (.iload 5, 2) := by decide +kernel
theorem dX7_figure_131 : decode cX7_figure 131 = .ok (.aload_n 0, 1) := by decide +kernel
theorem dX7_figure_132 : decode cX7_figure 132 = .ok (.getfield 13, 3) := by decide +kernel
theorem dX7_figure_135 : decode cX7_figure 135 = .ok (.iconst 2, 1) := by decide +kernel
theorem dX7_figure_136 : decode cX7_figure 136 = .ok (.iload 4, 2) := by decide +kernel
theorem dX7_figure_138 : decode cX7_figure 138 = .ok (.iadd, 1) := by decide +kernel
theorem dX7_figure_139 : decode cX7_figure 139 = .ok (.iaload, 1) := by decide +kernel
theorem dX7_figure_140 : decode cX7_figure 140 = .ok (.aload_n 0, 1) := by decide +kernel
theorem dX7_figure_141 : decode cX7_figure 141 = .ok (.getfield 28, 3) := by decide +kernel
theorem dX7_figure_144 : decode cX7_figure 144 = .ok (.iload 7, 2) := by decide +kernel
theorem dX7_figure_146 : decode cX7_figure 146 = .ok (.iaload, 1) := by decide +kernel
theorem dX7_figure_147 : decode cX7_figure 147 = .ok (.invokestatic 199, 3) := by decide +kernel
theorem dX7_figure_150 : decode cX7_figure 150 = .ok (.ifCond .eq 10, 3) := by decide +kernel
theorem dX7_figure_153 : decode cX7_figure 153 = .ok (.iconst 1, 1) := by decide +kernel
theorem dX7_figure_154 : decode cX7_figure 154 = .ok (.iload 6, 2) := by decide +kernel
theorem dX7_figure_156 : decode cX7_figure 156 = .ok (.ishl, 1) := by decide +kernel
theorem dX7_figure_157 : decode cX7_figure 157 = .ok (.goto 4, 3) := by decide +kernel
theorem dX7_figure_160 : decode cX7_figure 160 = .ok (.iconst 0, 1) := by decide +kernel
theorem dX7_figure_161 : decode cX7_figure 161 = .ok (.ior, 1) := by decide +kernel
theorem dX7_figure_162 : decode cX7_figure 162 = .ok (.istore 5, 2) := by decide +kernel
theorem dX7_figure_164 : decode cX7_figure 164 = .ok (.iinc 6 1, 3) := by decide +kernel
theorem dX7_figure_167 : decode cX7_figure 167 = .ok (.iinc 7 1, 3) := by decide +kernel
theorem dX7_figure_170 : decode cX7_figure 170 = .ok (.goto (-60), 3) := by decide +kernel
theorem dX7_figure_173 : decode cX7_figure 173 = .ok (.aload_n 0, 1) := by decide +kernel
theorem dX7_figure_174 : decode cX7_figure 174 = .ok (.iload 5, 2) := by decide +kernel
theorem dX7_figure_176 : decode cX7_figure 176 = .ok (.invokevirtual 130, 3) := by decide +kernel
theorem dX7_figure_179 : decode cX7_figure 179 = .ok (.iinc 4 1, 3) := by decide +kernel
theorem dX7_figure_182 : decode cX7_figure 182 = .ok (.goto (-108), 3) := by decide +kernel
theorem dX7_figure_185 : decode cX7_figure 185 = .ok (.aload_n 0, 1) := by decide +kernel
theorem dX7_figure_186 : decode cX7_figure 186 = .ok (.invokevirtual 187, 3) := by decide +kernel
theorem dX7_figure_189 : decode cX7_figure 189 = .ok (.aload_n 0, 1) := by decide +kernel
theorem dX7_figure_190 : decode cX7_figure 190 = .ok (.getfield 13, 3) := by decide +kernel
theorem dX7_figure_193 : decode cX7_figure 193 = .ok (.iconst 0, 1) := by decide +kernel
theorem dX7_figure_194 : decode cX7_figure 194 = .ok (.iaload, 1) := by decide +kernel
theorem dX7_figure_195 : decode cX7_figure 195 = .ok (.ireturn, 1) := by decide +kernel
theorem dX7_pointCount_0 : decode cX7_pointCount 0 = .ok (.aload_n 0, 1) := by decide +kernel
theorem dX7_pointCount_1 : decode cX7_pointCount 1 = .ok (.iconst 0, 1) := by decide +kernel
theorem dX7_pointCount_2 : decode cX7_pointCount 2 = .ok (.putfield 52, 3) := by decide +kernel
theorem dX7_pointCount_5 : decode cX7_pointCount 5 = .ok (.aload_n 0, 1) := by decide +kernel
theorem dX7_pointCount_6 : decode cX7_pointCount 6 = .ok (.getfield 13, 3) := by decide +kernel
theorem dX7_pointCount_9 : decode cX7_pointCount 9 = .ok (.iconst 0, 1) := by decide +kernel
theorem dX7_pointCount_10 : decode cX7_pointCount 10 = .ok (.iaload, 1) := by decide +kernel
theorem dX7_pointCount_11 : decode cX7_pointCount 11 = .ok (.ireturn, 1) := by decide +kernel
theorem dX7_facetCount_0 : decode cX7_facetCount 0 = .ok (.aload_n 0, 1) := by decide +kernel
theorem dX7_facetCount_1 : decode cX7_facetCount 1 = .ok (.iconst 0, 1) := by decide +kernel
theorem dX7_facetCount_2 : decode cX7_facetCount 2 = .ok (.putfield 52, 3) := by decide +kernel
theorem dX7_facetCount_5 : decode cX7_facetCount 5 = .ok (.aload_n 0, 1) := by decide +kernel
theorem dX7_facetCount_6 : decode cX7_facetCount 6 = .ok (.getfield 13, 3) := by decide +kernel
theorem dX7_facetCount_9 : decode cX7_facetCount 9 = .ok (.iconst 1, 1) := by decide +kernel
theorem dX7_facetCount_10 : decode cX7_facetCount 10 = .ok (.iaload, 1) := by decide +kernel
theorem dX7_facetCount_11 : decode cX7_facetCount 11 = .ok (.ireturn, 1) := by decide +kernel
theorem dX7_facet_0 : decode cX7_facet 0 = .ok (.aload_n 0, 1) := by decide +kernel
theorem dX7_facet_1 : decode cX7_facet 1 = .ok (.iconst 0, 1) := by decide +kernel
theorem dX7_facet_2 : decode cX7_facet 2 = .ok (.putfield 52, 3) := by decide +kernel
theorem dX7_facet_5 : decode cX7_facet 5 = .ok (.aload_n 0, 1) := by decide +kernel
theorem dX7_facet_6 : decode cX7_facet 6 = .ok (.aload_n 0, 1) := by decide +kernel
theorem dX7_facet_7 : decode cX7_facet 7 = .ok (.iload_n 1, 1) := by decide +kernel
theorem dX7_facet_8 : decode cX7_facet 8 = .ok (.invokevirtual 223, 3) := by decide +kernel
theorem dX7_facet_11 : decode cX7_facet 11 = .ok (.iconst 1, 1) := by decide +kernel
theorem dX7_facet_12 : decode cX7_facet 12 = .ok (.invokevirtual 63, 3) := by decide +kernel
theorem dX7_facet_15 : decode cX7_facet 15 = .ok (.ifCond .eq 7, 3) := by decide +kernel
theorem dX7_facet_18 : decode cX7_facet 18 = .ok (.iconst 0, 1) := by decide +kernel
theorem dX7_facet_19 : decode cX7_facet 19 = .ok (.goto 11, 3) := by decide +kernel
theorem dX7_facet_22 : decode cX7_facet 22 = .ok (.aload_n 0, 1) := by decide +kernel
theorem dX7_facet_23 : decode cX7_facet 23 = .ok (.getfield 13, 3) := by decide +kernel
theorem dX7_facet_26 : decode cX7_facet 26 = .ok (.iconst 2, 1) := by decide +kernel
theorem dX7_facet_27 : decode cX7_facet 27 = .ok (.iload_n 1, 1) := by decide +kernel
theorem dX7_facet_28 : decode cX7_facet 28 = .ok (.iadd, 1) := by decide +kernel
theorem dX7_facet_29 : decode cX7_facet 29 = .ok (.iaload, 1) := by decide +kernel
theorem dX7_facet_30 : decode cX7_facet 30 = .ok (.ireturn, 1) := by decide +kernel
theorem dX7_facetsOf_0 : decode cX7_facetsOf 0 = .ok (.aload_n 0, 1) := by decide +kernel
theorem dX7_facetsOf_1 : decode cX7_facetsOf 1 = .ok (.iconst 0, 1) := by decide +kernel
theorem dX7_facetsOf_2 : decode cX7_facetsOf 2 = .ok (.putfield 52, 3) := by decide +kernel
theorem dX7_facetsOf_5 : decode cX7_facetsOf 5 = .ok (.aload_n 0, 1) := by decide +kernel
theorem dX7_facetsOf_6 : decode cX7_facetsOf 6 = .ok (.aload_n 0, 1) := by decide +kernel
theorem dX7_facetsOf_7 : decode cX7_facetsOf 7 = .ok (.iload_n 1, 1) := by decide +kernel
theorem dX7_facetsOf_8 : decode cX7_facetsOf 8 = .ok (.invokevirtual 220, 3) := by decide +kernel
theorem dX7_facetsOf_11 : decode cX7_facetsOf 11 = .ok (.iconst 1, 1) := by decide +kernel
theorem dX7_facetsOf_12 : decode cX7_facetsOf 12 = .ok (.invokevirtual 63, 3) := by decide +kernel
theorem dX7_facetsOf_15 : decode cX7_facetsOf 15 = .ok (.ifCond .eq 7, 3) := by decide +kernel
theorem dX7_facetsOf_18 : decode cX7_facetsOf 18 = .ok (.iconst 0, 1) := by decide +kernel
theorem dX7_facetsOf_19 : decode cX7_facetsOf 19 = .ok (.goto 8, 3) := by decide +kernel
theorem dX7_facetsOf_22 : decode cX7_facetsOf 22 = .ok (.aload_n 0, 1) := by decide +kernel
theorem dX7_facetsOf_23 : decode cX7_facetsOf 23 = .ok (.iload_n 1, 1) := by decide +kernel
theorem dX7_facetsOf_24 : decode cX7_facetsOf 24 = .ok (.invokevirtual 235, 3) := by decide +kernel
theorem dX7_facetsOf_27 : decode cX7_facetsOf 27 = .ok (.ireturn, 1) := by decide +kernel
theorem dX7_closure_0 : decode cX7_closure 0 = .ok (.aload_n 0, 1) := by decide +kernel
theorem dX7_closure_1 : decode cX7_closure 1 = .ok (.iconst 0, 1) := by decide +kernel
theorem dX7_closure_2 : decode cX7_closure 2 = .ok (.putfield 52, 3) := by decide +kernel
theorem dX7_closure_5 : decode cX7_closure 5 = .ok (.aload_n 0, 1) := by decide +kernel
theorem dX7_closure_6 : decode cX7_closure 6 = .ok (.aload_n 0, 1) := by decide +kernel
theorem dX7_closure_7 : decode cX7_closure 7 = .ok (.iload_n 1, 1) := by decide +kernel
theorem dX7_closure_8 : decode cX7_closure 8 = .ok (.invokevirtual 229, 3) := by decide +kernel
theorem dX7_closure_11 : decode cX7_closure 11 = .ok (.iconst 1, 1) := by decide +kernel
theorem dX7_closure_12 : decode cX7_closure 12 = .ok (.invokevirtual 63, 3) := by decide +kernel
theorem dX7_closure_15 : decode cX7_closure 15 = .ok (.ifCond .eq 7, 3) := by decide +kernel
theorem dX7_closure_18 : decode cX7_closure 18 = .ok (.iconst 0, 1) := by decide +kernel
theorem dX7_closure_19 : decode cX7_closure 19 = .ok (.goto 8, 3) := by decide +kernel
theorem dX7_closure_22 : decode cX7_closure 22 = .ok (.aload_n 0, 1) := by decide +kernel
theorem dX7_closure_23 : decode cX7_closure 23 = .ok (.iload_n 1, 1) := by decide +kernel
theorem dX7_closure_24 : decode cX7_closure 24 = .ok (.invokevirtual 208, 3) := by decide +kernel
theorem dX7_closure_27 : decode cX7_closure 27 = .ok (.ireturn, 1) := by decide +kernel
theorem dX7_faceCount_0 : decode cX7_faceCount 0 = .ok (.aload_n 0, 1) := by decide +kernel
theorem dX7_faceCount_1 : decode cX7_faceCount 1 = .ok (.iconst 0, 1) := by decide +kernel
theorem dX7_faceCount_2 : decode cX7_faceCount 2 = .ok (.putfield 52, 3) := by decide +kernel
theorem dX7_faceCount_5 : decode cX7_faceCount 5 = .ok (.aload_n 0, 1) := by decide +kernel
theorem dX7_faceCount_6 : decode cX7_faceCount 6 = .ok (.invokevirtual 238, 3) := by decide +kernel
theorem dX7_faceCount_9 : decode cX7_faceCount 9 = .ok (.ireturn, 1) := by decide +kernel
theorem dX7_face_0 : decode cX7_face 0 = .ok (.aload_n 0, 1) := by decide +kernel
theorem dX7_face_1 : decode cX7_face 1 = .ok (.iconst 0, 1) := by decide +kernel
theorem dX7_face_2 : decode cX7_face 2 = .ok (.putfield 52, 3) := by decide +kernel
theorem dX7_face_5 : decode cX7_face 5 = .ok (.aload_n 0, 1) := by decide +kernel
theorem dX7_face_6 : decode cX7_face 6 = .ok (.aload_n 0, 1) := by decide +kernel
theorem dX7_face_7 : decode cX7_face 7 = .ok (.iload_n 1, 1) := by decide +kernel
theorem dX7_face_8 : decode cX7_face 8 = .ok (.invokevirtual 257, 3) := by decide +kernel
theorem dX7_face_11 : decode cX7_face 11 = .ok (.iconst 1, 1) := by decide +kernel
theorem dX7_face_12 : decode cX7_face 12 = .ok (.invokevirtual 63, 3) := by decide +kernel
theorem dX7_face_15 : decode cX7_face 15 = .ok (.ifCond .eq 7, 3) := by decide +kernel
theorem dX7_face_18 : decode cX7_face 18 = .ok (.iconst 0, 1) := by decide +kernel
theorem dX7_face_19 : decode cX7_face 19 = .ok (.goto 9, 3) := by decide +kernel
theorem dX7_face_22 : decode cX7_face 22 = .ok (.aload_n 0, 1) := by decide +kernel
theorem dX7_face_23 : decode cX7_face 23 = .ok (.getfield 28, 3) := by decide +kernel
theorem dX7_face_26 : decode cX7_face 26 = .ok (.iload_n 1, 1) := by decide +kernel
theorem dX7_face_27 : decode cX7_face 27 = .ok (.iaload, 1) := by decide +kernel
theorem dX7_face_28 : decode cX7_face 28 = .ok (.ireturn, 1) := by decide +kernel
theorem dX7_indexOf_0 : decode cX7_indexOf 0 = .ok (.aload_n 0, 1) := by decide +kernel
theorem dX7_indexOf_1 : decode cX7_indexOf 1 = .ok (.iconst 0, 1) := by decide +kernel
theorem dX7_indexOf_2 : decode cX7_indexOf 2 = .ok (.putfield 52, 3) := by decide +kernel
theorem dX7_indexOf_5 : decode cX7_indexOf 5 = .ok (.aload_n 0, 1) := by decide +kernel
theorem dX7_indexOf_6 : decode cX7_indexOf 6 = .ok (.invokevirtual 217, 3) := by decide +kernel
theorem dX7_indexOf_9 : decode cX7_indexOf 9 = .ok (.aload_n 0, 1) := by decide +kernel
theorem dX7_indexOf_10 : decode cX7_indexOf 10 = .ok (.iload_n 1, 1) := by decide +kernel
theorem dX7_indexOf_11 : decode cX7_indexOf 11 = .ok (.invokevirtual 229, 3) := by decide +kernel
theorem dX7_indexOf_14 : decode cX7_indexOf 14 = .ok (.ifCond .eq 12, 3) := by decide +kernel
theorem dX7_indexOf_17 : decode cX7_indexOf 17 = .ok (.aload_n 0, 1) := by decide +kernel
theorem dX7_indexOf_18 : decode cX7_indexOf 18 = .ok (.getfield 34, 3) := by decide +kernel
theorem dX7_indexOf_21 : decode cX7_indexOf 21 = .ok (.iload_n 1, 1) := by decide +kernel
theorem dX7_indexOf_22 : decode cX7_indexOf 22 = .ok (.iaload, 1) := by decide +kernel
theorem dX7_indexOf_23 : decode cX7_indexOf 23 = .ok (.goto 4, 3) := by decide +kernel
theorem dX7_indexOf_26 : decode cX7_indexOf 26 = .ok (.iconst (-1), 1) := by decide +kernel
theorem dX7_indexOf_27 : decode cX7_indexOf 27 = .ok (.ireturn, 1) := by decide +kernel
theorem dX7_rank_0 : decode cX7_rank 0 = .ok (.aload_n 0, 1) := by decide +kernel
theorem dX7_rank_1 : decode cX7_rank 1 = .ok (.iconst 0, 1) := by decide +kernel
theorem dX7_rank_2 : decode cX7_rank 2 = .ok (.putfield 52, 3) := by decide +kernel
theorem dX7_rank_5 : decode cX7_rank 5 = .ok (.aload_n 0, 1) := by decide +kernel
theorem dX7_rank_6 : decode cX7_rank 6 = .ok (.aload_n 0, 1) := by decide +kernel
theorem dX7_rank_7 : decode cX7_rank 7 = .ok (.iload_n 1, 1) := by decide +kernel
theorem dX7_rank_8 : decode cX7_rank 8 = .ok (.invokevirtual 257, 3) := by decide +kernel
theorem dX7_rank_11 : decode cX7_rank 11 = .ok (.iconst 1, 1) := by decide +kernel
theorem dX7_rank_12 : decode cX7_rank 12 = .ok (.invokevirtual 63, 3) := by decide +kernel
theorem dX7_rank_15 : decode cX7_rank 15 = .ok (.ifCond .eq 7, 3) := by decide +kernel
theorem dX7_rank_18 : decode cX7_rank 18 = .ok (.iconst 0, 1) := by decide +kernel
theorem dX7_rank_19 : decode cX7_rank 19 = .ok (.goto 8, 3) := by decide +kernel
theorem dX7_rank_22 : decode cX7_rank 22 = .ok (.aload_n 0, 1) := by decide +kernel
theorem dX7_rank_23 : decode cX7_rank 23 = .ok (.iload_n 1, 1) := by decide +kernel
theorem dX7_rank_24 : decode cX7_rank 24 = .ok (.invokevirtual 263, 3) := by decide +kernel
theorem dX7_rank_27 : decode cX7_rank 27 = .ok (.ireturn, 1) := by decide +kernel
theorem dX7_heightNow_0 : decode cX7_heightNow 0 = .ok (.aload_n 0, 1) := by decide +kernel
theorem dX7_heightNow_1 : decode cX7_heightNow 1 = .ok (.invokevirtual 217, 3) := by decide +kernel
theorem dX7_heightNow_4 : decode cX7_heightNow 4 = .ok (.aload_n 0, 1) := by decide +kernel
theorem dX7_heightNow_5 : decode cX7_heightNow 5 = .ok (.getfield 31, 3) := by decide +kernel
theorem dX7_heightNow_8 : decode cX7_heightNow 8 = .ok (.aload_n 0, 1) := by decide +kernel
theorem dX7_heightNow_9 : decode cX7_heightNow 9 = .ok (.invokevirtual 196, 3) := by decide +kernel
theorem dX7_heightNow_12 : decode cX7_heightNow 12 = .ok (.iaload, 1) := by decide +kernel
theorem dX7_heightNow_13 : decode cX7_heightNow 13 = .ok (.ireturn, 1) := by decide +kernel
theorem dX7_height_0 : decode cX7_height 0 = .ok (.aload_n 0, 1) := by decide +kernel
theorem dX7_height_1 : decode cX7_height 1 = .ok (.iconst 0, 1) := by decide +kernel
theorem dX7_height_2 : decode cX7_height 2 = .ok (.putfield 52, 3) := by decide +kernel
theorem dX7_height_5 : decode cX7_height 5 = .ok (.aload_n 0, 1) := by decide +kernel
theorem dX7_height_6 : decode cX7_height 6 = .ok (.invokevirtual 266, 3) := by decide +kernel
theorem dX7_height_9 : decode cX7_height 9 = .ok (.ireturn, 1) := by decide +kernel
theorem dX7_ofRank_0 : decode cX7_ofRank 0 = .ok (.aload_n 0, 1) := by decide +kernel
theorem dX7_ofRank_1 : decode cX7_ofRank 1 = .ok (.iconst 0, 1) := by decide +kernel
theorem dX7_ofRank_2 : decode cX7_ofRank 2 = .ok (.putfield 52, 3) := by decide +kernel
theorem dX7_ofRank_5 : decode cX7_ofRank 5 = .ok (.aload_n 0, 1) := by decide +kernel
theorem dX7_ofRank_6 : decode cX7_ofRank 6 = .ok (.iload_n 1, 1) := by decide +kernel
theorem dX7_ofRank_7 : decode cX7_ofRank 7 = .ok (.iconst 0, 1) := by decide +kernel
theorem dX7_ofRank_8 : decode cX7_ofRank 8 = .ok (.aload_n 0, 1) := by decide +kernel
theorem dX7_ofRank_9 : decode cX7_ofRank 9 = .ok (.invokevirtual 266, 3) := by decide +kernel
theorem dX7_ofRank_12 : decode cX7_ofRank 12 = .ok (.invokestatic 67, 3) := by decide +kernel
theorem dX7_ofRank_15 : decode cX7_ofRank 15 = .ok (.iconst 1, 1) := by decide +kernel
theorem dX7_ofRank_16 : decode cX7_ofRank 16 = .ok (.invokevirtual 63, 3) := by decide +kernel
theorem dX7_ofRank_19 : decode cX7_ofRank 19 = .ok (.ifCond .eq 5, 3) := by decide +kernel
theorem dX7_ofRank_22 : decode cX7_ofRank 22 = .ok (.iconst 0, 1) := by decide +kernel
theorem dX7_ofRank_23 : decode cX7_ofRank 23 = .ok (.ireturn, 1) := by decide +kernel
theorem dX7_ofRank_24 : decode cX7_ofRank 24 = .ok (.iconst 0, 1) := by decide +kernel
theorem dX7_ofRank_25 : decode cX7_ofRank 25 = .ok (.istore_n 2, 1) := by decide +kernel
theorem dX7_ofRank_26 : decode cX7_ofRank 26 = .ok (.iconst 0, 1) := by decide +kernel
theorem dX7_ofRank_27 : decode cX7_ofRank 27 = .ok (.istore_n 3, 1) := by decide +kernel
theorem dX7_ofRank_28 : decode cX7_ofRank 28 = .ok (.iload_n 3, 1) := by decide +kernel
theorem dX7_ofRank_29 : decode cX7_ofRank 29 = .ok (.aload_n 0, 1) := by decide +kernel
theorem dX7_ofRank_30 : decode cX7_ofRank 30 = .ok (.getfield 214, 3) := by decide +kernel
theorem dX7_ofRank_33 : decode cX7_ofRank 33 = .ok (.if_icmp .ge 26, 3) := by decide +kernel
theorem dX7_ofRank_36 : decode cX7_ofRank 36 = .ok (.iload_n 2, 1) := by decide +kernel
theorem dX7_ofRank_37 : decode cX7_ofRank 37 = .ok (.aload_n 0, 1) := by decide +kernel
theorem dX7_ofRank_38 : decode cX7_ofRank 38 = .ok (.iload_n 3, 1) := by decide +kernel
theorem dX7_ofRank_39 : decode cX7_ofRank 39 = .ok (.invokevirtual 263, 3) := by decide +kernel
theorem dX7_ofRank_42 : decode cX7_ofRank 42 = .ok (.iload_n 1, 1) := by decide +kernel
theorem dX7_ofRank_43 : decode cX7_ofRank 43 = .ok (.if_icmp .ne 7, 3) := by decide +kernel
theorem dX7_ofRank_46 : decode cX7_ofRank 46 = .ok (.iconst 1, 1) := by decide +kernel
theorem dX7_ofRank_47 : decode cX7_ofRank 47 = .ok (.goto 4, 3) := by decide +kernel
theorem dX7_ofRank_50 : decode cX7_ofRank 50 = .ok (.iconst 0, 1) := by decide +kernel
theorem dX7_ofRank_51 : decode cX7_ofRank 51 = .ok (.iadd, 1) := by decide +kernel
theorem dX7_ofRank_52 : decode cX7_ofRank 52 = .ok (.istore_n 2, 1) := by decide +kernel
theorem dX7_ofRank_53 : decode cX7_ofRank 53 = .ok (.iinc 3 1, 3) := by decide +kernel
theorem dX7_ofRank_56 : decode cX7_ofRank 56 = .ok (.goto (-28), 3) := by decide +kernel
theorem dX7_ofRank_59 : decode cX7_ofRank 59 = .ok (.iload_n 2, 1) := by decide +kernel
theorem dX7_ofRank_60 : decode cX7_ofRank 60 = .ok (.ireturn, 1) := by decide +kernel
theorem dX7_covers__0 : decode cX7_covers_ 0 = .ok (.aload_n 0, 1) := by decide +kernel
theorem dX7_covers__1 : decode cX7_covers_ 1 = .ok (.iconst 0, 1) := by decide +kernel
theorem dX7_covers__2 : decode cX7_covers_ 2 = .ok (.putfield 52, 3) := by decide +kernel
theorem dX7_covers__5 : decode cX7_covers_ 5 = .ok (.aload_n 0, 1) := by decide +kernel
theorem dX7_covers__6 : decode cX7_covers_ 6 = .ok (.aload_n 0, 1) := by decide +kernel
theorem dX7_covers__7 : decode cX7_covers_ 7 = .ok (.iload_n 1, 1) := by decide +kernel
theorem dX7_covers__8 : decode cX7_covers_ 8 = .ok (.invokevirtual 257, 3) := by decide +kernel
theorem dX7_covers__11 : decode cX7_covers_ 11 = .ok (.iconst 1, 1) := by decide +kernel
theorem dX7_covers__12 : decode cX7_covers_ 12 = .ok (.invokevirtual 63, 3) := by decide +kernel
theorem dX7_covers__15 : decode cX7_covers_ 15 = .ok (.ifCond .eq 7, 3) := by decide +kernel
theorem dX7_covers__18 : decode cX7_covers_ 18 = .ok (.iconst 0, 1) := by decide +kernel
theorem dX7_covers__19 : decode cX7_covers_ 19 = .ok (.goto 9, 3) := by decide +kernel
theorem dX7_covers__22 : decode cX7_covers_ 22 = .ok (.aload_n 0, 1) := by decide +kernel
theorem dX7_covers__23 : decode cX7_covers_ 23 = .ok (.iload_n 1, 1) := by decide +kernel
theorem dX7_covers__24 : decode cX7_covers_ 24 = .ok (.iload_n 2, 1) := by decide +kernel
theorem dX7_covers__25 : decode cX7_covers_ 25 = .ok (.invokevirtual 244, 3) := by decide +kernel
theorem dX7_covers__28 : decode cX7_covers_ 28 = .ok (.ireturn, 1) := by decide +kernel
theorem dX7_cover_0 : decode cX7_cover 0 = .ok (.aload_n 0, 1) := by decide +kernel
theorem dX7_cover_1 : decode cX7_cover 1 = .ok (.iconst 0, 1) := by decide +kernel
theorem dX7_cover_2 : decode cX7_cover 2 = .ok (.putfield 52, 3) := by decide +kernel
theorem dX7_cover_5 : decode cX7_cover 5 = .ok (.aload_n 0, 1) := by decide +kernel
theorem dX7_cover_6 : decode cX7_cover 6 = .ok (.aload_n 0, 1) := by decide +kernel
theorem dX7_cover_7 : decode cX7_cover 7 = .ok (.iload_n 1, 1) := by decide +kernel
theorem dX7_cover_8 : decode cX7_cover 8 = .ok (.invokevirtual 257, 3) := by decide +kernel
theorem dX7_cover_11 : decode cX7_cover 11 = .ok (.iconst 1, 1) := by decide +kernel
theorem dX7_cover_12 : decode cX7_cover 12 = .ok (.invokevirtual 63, 3) := by decide +kernel
theorem dX7_cover_15 : decode cX7_cover 15 = .ok (.ifCond .eq 5, 3) := by decide +kernel
theorem dX7_cover_18 : decode cX7_cover 18 = .ok (.iconst 0, 1) := by decide +kernel
theorem dX7_cover_19 : decode cX7_cover 19 = .ok (.ireturn, 1) := by decide +kernel
theorem dX7_cover_20 : decode cX7_cover 20 = .ok (.iload_n 3, 1) := by decide +kernel
theorem dX7_cover_21 : decode cX7_cover 21 = .ok (.istore 4, 2) := by decide +kernel
theorem dX7_cover_23 : decode cX7_cover 23 = .ok (.iconst 0, 1) := by decide +kernel
theorem dX7_cover_24 : decode cX7_cover 24 = .ok (.istore 5, 2) := by decide +kernel
theorem dX7_cover_26 : decode cX7_cover 26 = .ok (.iload 5, 2) := by decide +kernel
theorem dX7_cover_28 : decode cX7_cover 28 = .ok (.aload_n 0, 1) := by decide +kernel
theorem dX7_cover_29 : decode cX7_cover 29 = .ok (.getfield 214, 3) := by decide +kernel
theorem dX7_cover_32 : decode cX7_cover 32 = .ok (.if_icmp .ge 51, 3) := by decide +kernel
theorem dX7_cover_35 : decode cX7_cover 35 = .ok (.iload_n 3, 1) := by decide +kernel
theorem dX7_cover_36 : decode cX7_cover 36 = .ok (.ifCond .lt 47, 3) := by decide +kernel
theorem dX7_cover_39 : decode cX7_cover 39 = .ok (.iload_n 2, 1) := by decide +kernel
theorem dX7_cover_40 : decode cX7_cover 40 = .ok (.ifCond .eq 16, 3) := by decide +kernel
theorem dX7_cover_43 : decode cX7_cover 43 = .ok (.aload_n 0, 1) := by decide +kernel
theorem dX7_cover_44 : decode cX7_cover 44 = .ok (.iload 5, 2) := by decide +kernel
theorem dX7_cover_46 : decode cX7_cover 46 = .ok (.iload_n 1, 1) := by decide +kernel
theorem dX7_cover_47 : decode cX7_cover 47 = .ok (.invokevirtual 241, 3) := by decide +kernel
theorem dX7_cover_50 : decode cX7_cover 50 = .ok (.ifCond .eq 27, 3) := by decide +kernel
theorem dX7_cover_53 : decode cX7_cover 53 = .ok (.goto 13, 3) := by decide +kernel
theorem dX7_cover_56 : decode cX7_cover 56 = .ok (.aload_n 0, 1) := by decide +kernel
theorem dX7_cover_57 : decode cX7_cover 57 = .ok (.iload_n 1, 1) := by decide +kernel
theorem dX7_cover_58 : decode cX7_cover 58 = .ok (.iload 5, 2) := by decide +kernel
theorem dX7_cover_60 : decode cX7_cover 60 = .ok (.invokevirtual 241, 3) := by decide +kernel
theorem dX7_cover_63 : decode cX7_cover 63 = .ok (.ifCond .eq 14, 3) := by decide +kernel
theorem dX7_cover_66 : decode cX7_cover 66 = .ok (.iload 4, 2) := by decide +kernel
theorem dX7_cover_68 : decode cX7_cover 68 = .ok (.ifCond .ne 6, 3) := by decide +kernel
theorem dX7_cover_71 : decode cX7_cover 71 = .ok (.iload 5, 2) := by decide +kernel
theorem dX7_cover_73 : decode cX7_cover 73 = .ok (.ireturn, 1) := by decide +kernel
theorem dX7_cover_74 : decode cX7_cover 74 = .ok (.iinc 4 (-1), 3) := by decide +kernel
theorem dX7_cover_77 : decode cX7_cover 77 = .ok (.iinc 5 1, 3) := by decide +kernel
theorem dX7_cover_80 : decode cX7_cover 80 = .ok (.goto (-54), 3) := by decide +kernel
theorem dX7_cover_83 : decode cX7_cover 83 = .ok (.aload_n 0, 1) := by decide +kernel
theorem dX7_cover_84 : decode cX7_cover 84 = .ok (.iconst 1, 1) := by decide +kernel
theorem dX7_cover_85 : decode cX7_cover 85 = .ok (.putfield 52, 3) := by decide +kernel
theorem dX7_cover_88 : decode cX7_cover 88 = .ok (.iconst 0, 1) := by decide +kernel
theorem dX7_cover_89 : decode cX7_cover 89 = .ok (.ireturn, 1) := by decide +kernel
theorem dX7_failsFaces_0 : decode cX7_failsFaces 0 = .ok (.aload_n 0, 1) := by decide +kernel
theorem dX7_failsFaces_1 : decode cX7_failsFaces 1 = .ok (.aload_n 0, 1) := by decide +kernel
theorem dX7_failsFaces_2 : decode cX7_failsFaces 2 = .ok (.iload_n 1, 1) := by decide +kernel
theorem dX7_failsFaces_3 : decode cX7_failsFaces 3 = .ok (.invokevirtual 257, 3) := by decide +kernel
theorem dX7_failsFaces_6 : decode cX7_failsFaces 6 = .ok (.ifCond .eq 15, 3) := by decide +kernel
theorem dX7_failsFaces_9 : decode cX7_failsFaces 9 = .ok (.aload_n 0, 1) := by decide +kernel
theorem dX7_failsFaces_10 : decode cX7_failsFaces 10 = .ok (.iload_n 2, 1) := by decide +kernel
theorem dX7_failsFaces_11 : decode cX7_failsFaces 11 = .ok (.invokevirtual 257, 3) := by decide +kernel
theorem dX7_failsFaces_14 : decode cX7_failsFaces 14 = .ok (.ifCond .eq 7, 3) := by decide +kernel
theorem dX7_failsFaces_17 : decode cX7_failsFaces 17 = .ok (.iconst 1, 1) := by decide +kernel
theorem dX7_failsFaces_18 : decode cX7_failsFaces 18 = .ok (.goto 4, 3) := by decide +kernel
theorem dX7_failsFaces_21 : decode cX7_failsFaces 21 = .ok (.iconst 0, 1) := by decide +kernel
theorem dX7_failsFaces_22 : decode cX7_failsFaces 22 = .ok (.iconst 1, 1) := by decide +kernel
theorem dX7_failsFaces_23 : decode cX7_failsFaces 23 = .ok (.invokevirtual 63, 3) := by decide +kernel
theorem dX7_failsFaces_26 : decode cX7_failsFaces 26 = .ok (.ireturn, 1) := by decide +kernel
theorem dX7_join_0 : decode cX7_join 0 = .ok (.aload_n 0, 1) := by decide +kernel
theorem dX7_join_1 : decode cX7_join 1 = .ok (.iconst 0, 1) := by decide +kernel
theorem dX7_join_2 : decode cX7_join 2 = .ok (.putfield 52, 3) := by decide +kernel
theorem dX7_join_5 : decode cX7_join 5 = .ok (.aload_n 0, 1) := by decide +kernel
theorem dX7_join_6 : decode cX7_join 6 = .ok (.iload_n 1, 1) := by decide +kernel
theorem dX7_join_7 : decode cX7_join 7 = .ok (.iload_n 2, 1) := by decide +kernel
theorem dX7_join_8 : decode cX7_join 8 = .ok (.invokevirtual 269, 3) := by decide +kernel
theorem dX7_join_11 : decode cX7_join 11 = .ok (.ifCond .eq 7, 3) := by decide +kernel
theorem dX7_join_14 : decode cX7_join 14 = .ok (.iconst 0, 1) := by decide +kernel
theorem dX7_join_15 : decode cX7_join 15 = .ok (.goto 26, 3) := by decide +kernel
theorem dX7_join_18 : decode cX7_join 18 = .ok (.aload_n 0, 1) := by decide +kernel
theorem dX7_join_19 : decode cX7_join 19 = .ok (.getfield 34, 3) := by decide +kernel
theorem dX7_join_22 : decode cX7_join 22 = .ok (.aload_n 0, 1) := by decide +kernel
theorem dX7_join_23 : decode cX7_join 23 = .ok (.getfield 25, 3) := by decide +kernel
theorem dX7_join_26 : decode cX7_join 26 = .ok (.aload_n 0, 1) := by decide +kernel
theorem dX7_join_27 : decode cX7_join 27 = .ok (.getfield 28, 3) := by decide +kernel
theorem dX7_join_30 : decode cX7_join 30 = .ok (.iload_n 1, 1) := by decide +kernel
theorem dX7_join_31 : decode cX7_join 31 = .ok (.iaload, 1) := by decide +kernel
theorem dX7_join_32 : decode cX7_join 32 = .ok (.aload_n 0, 1) := by decide +kernel
theorem dX7_join_33 : decode cX7_join 33 = .ok (.getfield 28, 3) := by decide +kernel
theorem dX7_join_36 : decode cX7_join 36 = .ok (.iload_n 2, 1) := by decide +kernel
theorem dX7_join_37 : decode cX7_join 37 = .ok (.iaload, 1) := by decide +kernel
theorem dX7_join_38 : decode cX7_join 38 = .ok (.ior, 1) := by decide +kernel
theorem dX7_join_39 : decode cX7_join 39 = .ok (.iaload, 1) := by decide +kernel
theorem dX7_join_40 : decode cX7_join 40 = .ok (.iaload, 1) := by decide +kernel
theorem dX7_join_41 : decode cX7_join 41 = .ok (.ireturn, 1) := by decide +kernel
theorem dX7_meet_0 : decode cX7_meet 0 = .ok (.aload_n 0, 1) := by decide +kernel
theorem dX7_meet_1 : decode cX7_meet 1 = .ok (.iconst 0, 1) := by decide +kernel
theorem dX7_meet_2 : decode cX7_meet 2 = .ok (.putfield 52, 3) := by decide +kernel
theorem dX7_meet_5 : decode cX7_meet 5 = .ok (.aload_n 0, 1) := by decide +kernel
theorem dX7_meet_6 : decode cX7_meet 6 = .ok (.iload_n 1, 1) := by decide +kernel
theorem dX7_meet_7 : decode cX7_meet 7 = .ok (.iload_n 2, 1) := by decide +kernel
theorem dX7_meet_8 : decode cX7_meet 8 = .ok (.invokevirtual 269, 3) := by decide +kernel
theorem dX7_meet_11 : decode cX7_meet 11 = .ok (.ifCond .eq 7, 3) := by decide +kernel
theorem dX7_meet_14 : decode cX7_meet 14 = .ok (.iconst 0, 1) := by decide +kernel
theorem dX7_meet_15 : decode cX7_meet 15 = .ok (.goto 21, 3) := by decide +kernel
theorem dX7_meet_18 : decode cX7_meet 18 = .ok (.aload_n 0, 1) := by decide +kernel
theorem dX7_meet_19 : decode cX7_meet 19 = .ok (.getfield 34, 3) := by decide +kernel
theorem dX7_meet_22 : decode cX7_meet 22 = .ok (.aload_n 0, 1) := by decide +kernel
theorem dX7_meet_23 : decode cX7_meet 23 = .ok (.getfield 28, 3) := by decide +kernel
theorem dX7_meet_26 : decode cX7_meet 26 = .ok (.iload_n 1, 1) := by decide +kernel
theorem dX7_meet_27 : decode cX7_meet 27 = .ok (.iaload, 1) := by decide +kernel
theorem dX7_meet_28 : decode cX7_meet 28 = .ok (.aload_n 0, 1) := by decide +kernel
theorem dX7_meet_29 : decode cX7_meet 29 = .ok (.getfield 28, 3) := by decide +kernel
theorem dX7_meet_32 : decode cX7_meet 32 = .ok (.iload_n 2, 1) := by decide +kernel
theorem dX7_meet_33 : decode cX7_meet 33 = .ok (.iaload, 1) := by decide +kernel
theorem dX7_meet_34 : decode cX7_meet 34 = .ok (.iand, 1) := by decide +kernel
theorem dX7_meet_35 : decode cX7_meet 35 = .ok (.iaload, 1) := by decide +kernel
theorem dX7_meet_36 : decode cX7_meet 36 = .ok (.ireturn, 1) := by decide +kernel
theorem dX7_betweenOf_0 : decode cX7_betweenOf 0 = .ok (.iconst 0, 1) := by decide +kernel
theorem dX7_betweenOf_1 : decode cX7_betweenOf 1 = .ok (.istore_n 3, 1) := by decide +kernel
theorem dX7_betweenOf_2 : decode cX7_betweenOf 2 = .ok (.iconst 0, 1) := by decide +kernel
theorem dX7_betweenOf_3 : decode cX7_betweenOf 3 = .ok (.istore 4, 2) := by decide +kernel
theorem dX7_betweenOf_5 : decode cX7_betweenOf 5 = .ok (.iload 4, 2) := by decide +kernel
theorem dX7_betweenOf_7 : decode cX7_betweenOf 7 = .ok (.aload_n 0, 1) := by decide +kernel
theorem dX7_betweenOf_8 : decode cX7_betweenOf 8 = .ok (.getfield 214, 3) := by decide +kernel
theorem dX7_betweenOf_11 : decode cX7_betweenOf 11 = .ok (.if_icmp .ge 37, 3) := by decide +kernel
theorem dX7_betweenOf_14 : decode cX7_betweenOf 14 = .ok (.iload_n 3, 1) := by decide +kernel
theorem dX7_betweenOf_15 : decode cX7_betweenOf 15 = .ok (.aload_n 0, 1) := by decide +kernel
theorem dX7_betweenOf_16 : decode cX7_betweenOf 16 = .ok (.iload_n 1, 1) := by decide +kernel
theorem dX7_betweenOf_17 : decode cX7_betweenOf 17 = .ok (.iload 4, 2) := by decide +kernel
theorem dX7_betweenOf_19 : decode cX7_betweenOf 19 = .ok (.invokevirtual 272, 3) := by decide +kernel
theorem dX7_betweenOf_22 : decode cX7_betweenOf 22 = .ok (.ifCond .eq 17, 3) := by decide +kernel
theorem dX7_betweenOf_25 : decode cX7_betweenOf 25 = .ok (.aload_n 0, 1) := by decide +kernel
theorem dX7_betweenOf_26 : decode cX7_betweenOf 26 = .ok (.iload 4, 2) := by decide +kernel
theorem dX7_betweenOf_28 : decode cX7_betweenOf 28 = .ok (.iload_n 2, 1) := by decide +kernel
theorem dX7_betweenOf_29 : decode cX7_betweenOf 29 = .ok (.invokevirtual 272, 3) := by decide +kernel
theorem dX7_betweenOf_32 : decode cX7_betweenOf 32 = .ok (.ifCond .eq 7, 3) := by decide +kernel
theorem dX7_betweenOf_35 : decode cX7_betweenOf 35 = .ok (.iconst 1, 1) := by decide +kernel
theorem dX7_betweenOf_36 : decode cX7_betweenOf 36 = .ok (.goto 4, 3) := by decide +kernel
theorem dX7_betweenOf_39 : decode cX7_betweenOf 39 = .ok (.iconst 0, 1) := by decide +kernel
theorem dX7_betweenOf_40 : decode cX7_betweenOf 40 = .ok (.iadd, 1) := by decide +kernel
theorem dX7_betweenOf_41 : decode cX7_betweenOf 41 = .ok (.istore_n 3, 1) := by decide +kernel
theorem dX7_betweenOf_42 : decode cX7_betweenOf 42 = .ok (.iinc 4 1, 3) := by decide +kernel
theorem dX7_betweenOf_45 : decode cX7_betweenOf 45 = .ok (.goto (-40), 3) := by decide +kernel
theorem dX7_betweenOf_48 : decode cX7_betweenOf 48 = .ok (.iload_n 3, 1) := by decide +kernel
theorem dX7_betweenOf_49 : decode cX7_betweenOf 49 = .ok (.ireturn, 1) := by decide +kernel
theorem dX7_between_0 : decode cX7_between 0 = .ok (.aload_n 0, 1) := by decide +kernel
theorem dX7_between_1 : decode cX7_between 1 = .ok (.iconst 0, 1) := by decide +kernel
theorem dX7_between_2 : decode cX7_between 2 = .ok (.putfield 52, 3) := by decide +kernel
theorem dX7_between_5 : decode cX7_between 5 = .ok (.aload_n 0, 1) := by decide +kernel
theorem dX7_between_6 : decode cX7_between 6 = .ok (.iload_n 1, 1) := by decide +kernel
theorem dX7_between_7 : decode cX7_between 7 = .ok (.iload_n 2, 1) := by decide +kernel
theorem dX7_between_8 : decode cX7_between 8 = .ok (.invokevirtual 269, 3) := by decide +kernel
theorem dX7_between_11 : decode cX7_between 11 = .ok (.ifCond .eq 7, 3) := by decide +kernel
theorem dX7_between_14 : decode cX7_between 14 = .ok (.iconst 0, 1) := by decide +kernel
theorem dX7_between_15 : decode cX7_between 15 = .ok (.goto 9, 3) := by decide +kernel
theorem dX7_between_18 : decode cX7_between 18 = .ok (.aload_n 0, 1) := by decide +kernel
theorem dX7_between_19 : decode cX7_between 19 = .ok (.iload_n 1, 1) := by decide +kernel
theorem dX7_between_20 : decode cX7_between 20 = .ok (.iload_n 2, 1) := by decide +kernel
theorem dX7_between_21 : decode cX7_between 21 = .ok (.invokevirtual 275, 3) := by decide +kernel
theorem dX7_between_24 : decode cX7_between 24 = .ok (.ireturn, 1) := by decide +kernel
theorem dX7_chainsOf_0 : decode cX7_chainsOf 0 = .ok (.iconst 0, 1) := by decide +kernel
theorem dX7_chainsOf_1 : decode cX7_chainsOf 1 = .ok (.istore_n 3, 1) := by decide +kernel
theorem dX7_chainsOf_2 : decode cX7_chainsOf 2 = .ok (.iload_n 3, 1) := by decide +kernel
theorem dX7_chainsOf_3 : decode cX7_chainsOf 3 = .ok (.aload_n 0, 1) := by decide +kernel
theorem dX7_chainsOf_4 : decode cX7_chainsOf 4 = .ok (.getfield 214, 3) := by decide +kernel
theorem dX7_chainsOf_7 : decode cX7_chainsOf 7 = .ok (.if_icmp .ge 70, 3) := by decide +kernel
theorem dX7_chainsOf_10 : decode cX7_chainsOf 10 = .ok (.aload_n 0, 1) := by decide +kernel
theorem dX7_chainsOf_11 : decode cX7_chainsOf 11 = .ok (.getfield 37, 3) := by decide +kernel
theorem dX7_chainsOf_14 : decode cX7_chainsOf 14 = .ok (.iload_n 3, 1) := by decide +kernel
theorem dX7_chainsOf_15 : decode cX7_chainsOf 15 = .ok (.iload_n 3, 1) := by decide +kernel
theorem dX7_chainsOf_16 : decode cX7_chainsOf 16 = .ok (.iload_n 1, 1) := by decide +kernel
theorem dX7_chainsOf_17 : decode cX7_chainsOf 17 = .ok (.if_icmp .ne 7, 3) := by decide +kernel
theorem dX7_chainsOf_20 : decode cX7_chainsOf 20 = .ok (.iconst 1, 1) := by decide +kernel
theorem dX7_chainsOf_21 : decode cX7_chainsOf 21 = .ok (.goto 4, 3) := by decide +kernel
theorem dX7_chainsOf_24 : decode cX7_chainsOf 24 = .ok (.iconst 0, 1) := by decide +kernel
theorem dX7_chainsOf_25 : decode cX7_chainsOf 25 = .ok (.iastore, 1) := by decide +kernel
theorem dX7_chainsOf_26 : decode cX7_chainsOf 26 = .ok (.iconst 0, 1) := by decide +kernel
theorem dX7_chainsOf_27 : decode cX7_chainsOf 27 = .ok (.istore 4, 2) := by decide +kernel
theorem dX7_chainsOf_29 : decode cX7_chainsOf 29 = .ok (.iload 4, 2) := by decide +kernel
theorem dX7_chainsOf_31 : decode cX7_chainsOf 31 = .ok (.iload_n 3, 1) := by decide +kernel
theorem dX7_chainsOf_32 : decode cX7_chainsOf 32 = .ok (.if_icmp .ge 39, 3) := by decide +kernel
theorem dX7_chainsOf_35 : decode cX7_chainsOf 35 = .ok (.aload_n 0, 1) := by decide +kernel
theorem dX7_chainsOf_36 : decode cX7_chainsOf 36 = .ok (.getfield 37, 3) := by decide +kernel
theorem dX7_chainsOf_39 : decode cX7_chainsOf 39 = .ok (.iload_n 3, 1) := by decide +kernel
theorem dX7_chainsOf_40 : decode cX7_chainsOf 40 = .ok (.dup2, 1) := by decide +kernel
theorem dX7_chainsOf_41 : decode cX7_chainsOf 41 = .ok (.iaload, 1) := by decide +kernel
theorem dX7_chainsOf_42 : decode cX7_chainsOf 42 = .ok (.aload_n 0, 1) := by decide +kernel
theorem dX7_chainsOf_43 : decode cX7_chainsOf 43 = .ok (.iload_n 3, 1) := by decide +kernel
theorem dX7_chainsOf_44 : decode cX7_chainsOf 44 = .ok (.iload 4, 2) := by decide +kernel
theorem dX7_chainsOf_46 : decode cX7_chainsOf 46 = .ok (.invokevirtual 241, 3) := by decide +kernel
theorem dX7_chainsOf_49 : decode cX7_chainsOf 49 = .ok (.ifCond .eq 13, 3) := by decide +kernel
theorem dX7_chainsOf_52 : decode cX7_chainsOf 52 = .ok (.aload_n 0, 1) := by decide +kernel
theorem dX7_chainsOf_53 : decode cX7_chainsOf 53 = .ok (.getfield 37, 3) := by decide +kernel
theorem dX7_chainsOf_56 : decode cX7_chainsOf 56 = .ok (.iload 4, 2) := by decide +kernel
theorem dX7_chainsOf_58 : decode cX7_chainsOf 58 = .ok (.iaload, 1) := by decide +kernel
theorem dX7_chainsOf_59 : decode cX7_chainsOf 59 = .ok (.goto 4, 3) := by decide +kernel
theorem dX7_chainsOf_62 : decode cX7_chainsOf 62 = .ok (.iconst 0, 1) := by decide +kernel
theorem dX7_chainsOf_63 : decode cX7_chainsOf 63 = .ok (.iadd, 1) := by decide +kernel
theorem dX7_chainsOf_64 : decode cX7_chainsOf 64 = .ok (.iastore, 1) := by decide +kernel
theorem dX7_chainsOf_65 : decode cX7_chainsOf 65 = .ok (.iinc 4 1, 3) := by decide +kernel
theorem dX7_chainsOf_68 : decode cX7_chainsOf 68 = .ok (.goto (-39), 3) := by decide +kernel
theorem dX7_chainsOf_71 : decode cX7_chainsOf 71 = .ok (.iinc 3 1, 3) := by decide +kernel
theorem dX7_chainsOf_74 : decode cX7_chainsOf 74 = .ok (.goto (-72), 3) := by decide +kernel
theorem dX7_chainsOf_77 : decode cX7_chainsOf 77 = .ok (.aload_n 0, 1) := by decide +kernel
theorem dX7_chainsOf_78 : decode cX7_chainsOf 78 = .ok (.getfield 37, 3) := by decide +kernel
theorem dX7_chainsOf_81 : decode cX7_chainsOf 81 = .ok (.iload_n 2, 1) := by decide +kernel
theorem dX7_chainsOf_82 : decode cX7_chainsOf 82 = .ok (.iaload, 1) := by decide +kernel
theorem dX7_chainsOf_83 : decode cX7_chainsOf 83 = .ok (.ireturn, 1) := by decide +kernel
theorem dX7_chains_0 : decode cX7_chains 0 = .ok (.aload_n 0, 1) := by decide +kernel
theorem dX7_chains_1 : decode cX7_chains 1 = .ok (.iconst 0, 1) := by decide +kernel
theorem dX7_chains_2 : decode cX7_chains 2 = .ok (.putfield 52, 3) := by decide +kernel
theorem dX7_chains_5 : decode cX7_chains 5 = .ok (.aload_n 0, 1) := by decide +kernel
theorem dX7_chains_6 : decode cX7_chains 6 = .ok (.iload_n 1, 1) := by decide +kernel
theorem dX7_chains_7 : decode cX7_chains 7 = .ok (.iload_n 2, 1) := by decide +kernel
theorem dX7_chains_8 : decode cX7_chains 8 = .ok (.invokevirtual 269, 3) := by decide +kernel
theorem dX7_chains_11 : decode cX7_chains 11 = .ok (.ifCond .eq 7, 3) := by decide +kernel
theorem dX7_chains_14 : decode cX7_chains 14 = .ok (.iconst 0, 1) := by decide +kernel
theorem dX7_chains_15 : decode cX7_chains 15 = .ok (.goto 9, 3) := by decide +kernel
theorem dX7_chains_18 : decode cX7_chains 18 = .ok (.aload_n 0, 1) := by decide +kernel
theorem dX7_chains_19 : decode cX7_chains 19 = .ok (.iload_n 1, 1) := by decide +kernel
theorem dX7_chains_20 : decode cX7_chains 20 = .ok (.iload_n 2, 1) := by decide +kernel
theorem dX7_chains_21 : decode cX7_chains 21 = .ok (.invokevirtual 278, 3) := by decide +kernel
theorem dX7_chains_24 : decode cX7_chains 24 = .ok (.ireturn, 1) := by decide +kernel
theorem dX7_layMobius_0 : decode cX7_layMobius 0 = .ok (.iconst 0, 1) := by decide +kernel
theorem dX7_layMobius_1 : decode cX7_layMobius 1 = .ok (.istore_n 2, 1) := by decide +kernel
theorem dX7_layMobius_2 : decode cX7_layMobius 2 = .ok (.iload_n 2, 1) := by decide +kernel
theorem dX7_layMobius_3 : decode cX7_layMobius 3 = .ok (.aload_n 0, 1) := by decide +kernel
theorem dX7_layMobius_4 : decode cX7_layMobius 4 = .ok (.getfield 214, 3) := by decide +kernel
theorem dX7_layMobius_7 : decode cX7_layMobius 7 = .ok (.if_icmp .ge 89, 3) := by decide +kernel
theorem dX7_layMobius_10 : decode cX7_layMobius 10 = .ok (.aload_n 0, 1) := by decide +kernel
theorem dX7_layMobius_11 : decode cX7_layMobius 11 = .ok (.getfield 37, 3) := by decide +kernel
theorem dX7_layMobius_14 : decode cX7_layMobius 14 = .ok (.iload_n 2, 1) := by decide +kernel
theorem dX7_layMobius_15 : decode cX7_layMobius 15 = .ok (.iload_n 2, 1) := by decide +kernel
theorem dX7_layMobius_16 : decode cX7_layMobius 16 = .ok (.iload_n 1, 1) := by decide +kernel
theorem dX7_layMobius_17 : decode cX7_layMobius 17 = .ok (.if_icmp .ne 7, 3) := by decide +kernel
theorem dX7_layMobius_20 : decode cX7_layMobius 20 = .ok (.iconst 1, 1) := by decide +kernel
theorem dX7_layMobius_21 : decode cX7_layMobius 21 = .ok (.goto 4, 3) := by decide +kernel
theorem dX7_layMobius_24 : decode cX7_layMobius 24 = .ok (.iconst 0, 1) := by decide +kernel
theorem dX7_layMobius_25 : decode cX7_layMobius 25 = .ok (.iastore, 1) := by decide +kernel
theorem dX7_layMobius_26 : decode cX7_layMobius 26 = .ok (.iconst 0, 1) := by decide +kernel
theorem dX7_layMobius_27 : decode cX7_layMobius 27 = .ok (.istore_n 3, 1) := by decide +kernel
theorem dX7_layMobius_28 : decode cX7_layMobius 28 = .ok (.iload_n 3, 1) := by decide +kernel
theorem dX7_layMobius_29 : decode cX7_layMobius 29 = .ok (.iload_n 2, 1) := by decide +kernel
theorem dX7_layMobius_30 : decode cX7_layMobius 30 = .ok (.if_icmp .ge 60, 3) := by decide +kernel
theorem dX7_layMobius_33 : decode cX7_layMobius 33 = .ok (.iload_n 2, 1) := by decide +kernel
theorem dX7_layMobius_34 : decode cX7_layMobius 34 = .ok (.iload_n 1, 1) := by decide +kernel
theorem dX7_layMobius_35 : decode cX7_layMobius 35 = .ok (.if_icmp .eq 55, 3) := by decide +kernel
theorem dX7_layMobius_38 : decode cX7_layMobius 38 = .ok (.aload_n 0, 1) := by decide +kernel
theorem dX7_layMobius_39 : decode cX7_layMobius 39 = .ok (.iload_n 1, 1) := by decide +kernel
theorem dX7_layMobius_40 : decode cX7_layMobius 40 = .ok (.iload_n 2, 1) := by decide +kernel
theorem dX7_layMobius_41 : decode cX7_layMobius 41 = .ok (.invokevirtual 272, 3) := by decide +kernel
theorem dX7_layMobius_44 : decode cX7_layMobius 44 = .ok (.ifCond .eq 46, 3) := by decide +kernel
theorem dX7_layMobius_47 : decode cX7_layMobius 47 = .ok (.aload_n 0, 1) := by decide +kernel
theorem dX7_layMobius_48 : decode cX7_layMobius 48 = .ok (.getfield 37, 3) := by decide +kernel
theorem dX7_layMobius_51 : decode cX7_layMobius 51 = .ok (.iload_n 2, 1) := by decide +kernel
theorem dX7_layMobius_52 : decode cX7_layMobius 52 = .ok (.dup2, 1) := by decide +kernel
theorem dX7_layMobius_53 : decode cX7_layMobius 53 = .ok (.iaload, 1) := by decide +kernel
theorem dX7_layMobius_54 : decode cX7_layMobius 54 = .ok (.aload_n 0, 1) := by decide +kernel
theorem dX7_layMobius_55 : decode cX7_layMobius 55 = .ok (.iload_n 1, 1) := by decide +kernel
theorem dX7_layMobius_56 : decode cX7_layMobius 56 = .ok (.iload_n 3, 1) := by decide +kernel
theorem dX7_layMobius_57 : decode cX7_layMobius 57 = .ok (.invokevirtual 272, 3) := by decide +kernel
theorem dX7_layMobius_60 : decode cX7_layMobius 60 = .ok (.ifCond .eq 21, 3) := by decide +kernel
theorem dX7_layMobius_63 : decode cX7_layMobius 63 = .ok (.aload_n 0, 1) := by decide +kernel
theorem dX7_layMobius_64 : decode cX7_layMobius 64 = .ok (.iload_n 3, 1) := by decide +kernel
theorem dX7_layMobius_65 : decode cX7_layMobius 65 = .ok (.iload_n 2, 1) := by decide +kernel
theorem dX7_layMobius_66 : decode cX7_layMobius 66 = .ok (.invokevirtual 272, 3) := by decide +kernel
theorem dX7_layMobius_69 : decode cX7_layMobius 69 = .ok (.ifCond .eq 12, 3) := by decide +kernel
theorem dX7_layMobius_72 : decode cX7_layMobius 72 = .ok (.aload_n 0, 1) := by decide +kernel
theorem dX7_layMobius_73 : decode cX7_layMobius 73 = .ok (.getfield 37, 3) := by decide +kernel
theorem dX7_layMobius_76 : decode cX7_layMobius 76 = .ok (.iload_n 3, 1) := by decide +kernel
theorem dX7_layMobius_77 : decode cX7_layMobius 77 = .ok (.iaload, 1) := by decide +kernel
theorem dX7_layMobius_78 : decode cX7_layMobius 78 = .ok (.goto 4, 3) := by decide +kernel
theorem dX7_layMobius_81 : decode cX7_layMobius 81 = .ok (.iconst 0, 1) := by decide +kernel
theorem dX7_layMobius_82 : decode cX7_layMobius 82 = .ok (.isub, 1) := by decide +kernel
theorem dX7_layMobius_83 : decode cX7_layMobius 83 = .ok (.iastore, 1) := by decide +kernel
theorem dX7_layMobius_84 : decode cX7_layMobius 84 = .ok (.iinc 3 1, 3) := by decide +kernel
theorem dX7_layMobius_87 : decode cX7_layMobius 87 = .ok (.goto (-59), 3) := by decide +kernel
theorem dX7_layMobius_90 : decode cX7_layMobius 90 = .ok (.iinc 2 1, 3) := by decide +kernel
theorem dX7_layMobius_93 : decode cX7_layMobius 93 = .ok (.goto (-91), 3) := by decide +kernel
theorem dX7_layMobius_96 : decode cX7_layMobius 96 = .ok (.return_, 1) := by decide +kernel
theorem dX7_mobius_0 : decode cX7_mobius 0 = .ok (.aload_n 0, 1) := by decide +kernel
theorem dX7_mobius_1 : decode cX7_mobius 1 = .ok (.iconst 0, 1) := by decide +kernel
theorem dX7_mobius_2 : decode cX7_mobius 2 = .ok (.putfield 52, 3) := by decide +kernel
theorem dX7_mobius_5 : decode cX7_mobius 5 = .ok (.aload_n 0, 1) := by decide +kernel
theorem dX7_mobius_6 : decode cX7_mobius 6 = .ok (.iload_n 1, 1) := by decide +kernel
theorem dX7_mobius_7 : decode cX7_mobius 7 = .ok (.iload_n 2, 1) := by decide +kernel
theorem dX7_mobius_8 : decode cX7_mobius 8 = .ok (.invokevirtual 269, 3) := by decide +kernel
theorem dX7_mobius_11 : decode cX7_mobius 11 = .ok (.ifCond .eq 5, 3) := by decide +kernel
theorem dX7_mobius_14 : decode cX7_mobius 14 = .ok (.iconst 0, 1) := by decide +kernel
theorem dX7_mobius_15 : decode cX7_mobius 15 = .ok (.ireturn, 1) := by decide +kernel
theorem dX7_mobius_16 : decode cX7_mobius 16 = .ok (.aload_n 0, 1) := by decide +kernel
theorem dX7_mobius_17 : decode cX7_mobius 17 = .ok (.iload_n 1, 1) := by decide +kernel
theorem dX7_mobius_18 : decode cX7_mobius 18 = .ok (.invokevirtual 281, 3) := by decide +kernel
theorem dX7_mobius_21 : decode cX7_mobius 21 = .ok (.aload_n 0, 1) := by decide +kernel
theorem dX7_mobius_22 : decode cX7_mobius 22 = .ok (.iload_n 1, 1) := by decide +kernel
theorem dX7_mobius_23 : decode cX7_mobius 23 = .ok (.iload_n 2, 1) := by decide +kernel
theorem dX7_mobius_24 : decode cX7_mobius 24 = .ok (.invokevirtual 272, 3) := by decide +kernel
theorem dX7_mobius_27 : decode cX7_mobius 27 = .ok (.ifCond .eq 12, 3) := by decide +kernel
theorem dX7_mobius_30 : decode cX7_mobius 30 = .ok (.aload_n 0, 1) := by decide +kernel
theorem dX7_mobius_31 : decode cX7_mobius 31 = .ok (.getfield 37, 3) := by decide +kernel
theorem dX7_mobius_34 : decode cX7_mobius 34 = .ok (.iload_n 2, 1) := by decide +kernel
theorem dX7_mobius_35 : decode cX7_mobius 35 = .ok (.iaload, 1) := by decide +kernel
theorem dX7_mobius_36 : decode cX7_mobius 36 = .ok (.goto 4, 3) := by decide +kernel
theorem dX7_mobius_39 : decode cX7_mobius 39 = .ok (.iconst 0, 1) := by decide +kernel
theorem dX7_mobius_40 : decode cX7_mobius 40 = .ok (.ireturn, 1) := by decide +kernel
theorem dX7_isGradedNow_0 : decode cX7_isGradedNow 0 = .ok (.aload_n 0, 1) := by decide +kernel
theorem dX7_isGradedNow_1 : decode cX7_isGradedNow 1 = .ok (.invokevirtual 217, 3) := by decide +kernel
theorem dX7_isGradedNow_4 : decode cX7_isGradedNow 4 = .ok (.iconst 0, 1) := by decide +kernel
theorem dX7_isGradedNow_5 : decode cX7_isGradedNow 5 = .ok (.istore_n 1, 1) := by decide +kernel
theorem dX7_isGradedNow_6 : decode cX7_isGradedNow 6 = .ok (.iload_n 1, 1) := by decide +kernel
theorem dX7_isGradedNow_7 : decode cX7_isGradedNow 7 = .ok (.aload_n 0, 1) := by decide +kernel
theorem dX7_isGradedNow_8 : decode cX7_isGradedNow 8 = .ok (.getfield 214, 3) := by decide +kernel
theorem dX7_isGradedNow_11 : decode cX7_isGradedNow 11 = .ok (.if_icmp .ge 48, 3) := by decide +kernel
theorem dX7_isGradedNow_14 : decode cX7_isGradedNow 14 = .ok (.iconst 0, 1) := by decide +kernel
theorem dX7_isGradedNow_15 : decode cX7_isGradedNow 15 = .ok (.istore_n 2, 1) := by decide +kernel
theorem dX7_isGradedNow_16 : decode cX7_isGradedNow 16 = .ok (.iload_n 2, 1) := by decide +kernel
theorem dX7_isGradedNow_17 : decode cX7_isGradedNow 17 = .ok (.iload_n 1, 1) := by decide +kernel
theorem dX7_isGradedNow_18 : decode cX7_isGradedNow 18 = .ok (.if_icmp .ge 35, 3) := by decide +kernel
theorem dX7_isGradedNow_21 : decode cX7_isGradedNow 21 = .ok (.aload_n 0, 1) := by decide +kernel
theorem dX7_isGradedNow_22 : decode cX7_isGradedNow 22 = .ok (.iload_n 1, 1) := by decide +kernel
theorem dX7_isGradedNow_23 : decode cX7_isGradedNow 23 = .ok (.iload_n 2, 1) := by decide +kernel
theorem dX7_isGradedNow_24 : decode cX7_isGradedNow 24 = .ok (.invokevirtual 241, 3) := by decide +kernel
theorem dX7_isGradedNow_27 : decode cX7_isGradedNow 27 = .ok (.ifCond .eq 20, 3) := by decide +kernel
theorem dX7_isGradedNow_30 : decode cX7_isGradedNow 30 = .ok (.aload_n 0, 1) := by decide +kernel
theorem dX7_isGradedNow_31 : decode cX7_isGradedNow 31 = .ok (.iload_n 1, 1) := by decide +kernel
theorem dX7_isGradedNow_32 : decode cX7_isGradedNow 32 = .ok (.invokevirtual 263, 3) := by decide +kernel
theorem dX7_isGradedNow_35 : decode cX7_isGradedNow 35 = .ok (.aload_n 0, 1) := by decide +kernel
theorem dX7_isGradedNow_36 : decode cX7_isGradedNow 36 = .ok (.iload_n 2, 1) := by decide +kernel
theorem dX7_isGradedNow_37 : decode cX7_isGradedNow 37 = .ok (.invokevirtual 263, 3) := by decide +kernel
theorem dX7_isGradedNow_40 : decode cX7_isGradedNow 40 = .ok (.iconst 1, 1) := by decide +kernel
theorem dX7_isGradedNow_41 : decode cX7_isGradedNow 41 = .ok (.iadd, 1) := by decide +kernel
theorem dX7_isGradedNow_42 : decode cX7_isGradedNow 42 = .ok (.if_icmp .eq 5, 3) := by decide +kernel
theorem dX7_isGradedNow_45 : decode cX7_isGradedNow 45 = .ok (.iconst 0, 1) := by decide +kernel
theorem dX7_isGradedNow_46 : decode cX7_isGradedNow 46 = .ok (.ireturn, 1) := by decide +kernel
theorem dX7_isGradedNow_47 : decode cX7_isGradedNow 47 = .ok (.iinc 2 1, 3) := by decide +kernel
theorem dX7_isGradedNow_50 : decode cX7_isGradedNow 50 = .ok (.goto (-34), 3) := by decide +kernel
theorem dX7_isGradedNow_53 : decode cX7_isGradedNow 53 = .ok (.iinc 1 1, 3) := by decide +kernel
theorem dX7_isGradedNow_56 : decode cX7_isGradedNow 56 = .ok (.goto (-50), 3) := by decide +kernel
theorem dX7_isGradedNow_59 : decode cX7_isGradedNow 59 = .ok (.iconst 1, 1) := by decide +kernel
theorem dX7_isGradedNow_60 : decode cX7_isGradedNow 60 = .ok (.ireturn, 1) := by decide +kernel
theorem dX7_isGraded_0 : decode cX7_isGraded 0 = .ok (.aload_n 0, 1) := by decide +kernel
theorem dX7_isGraded_1 : decode cX7_isGraded 1 = .ok (.iconst 0, 1) := by decide +kernel
theorem dX7_isGraded_2 : decode cX7_isGraded 2 = .ok (.putfield 52, 3) := by decide +kernel
theorem dX7_isGraded_5 : decode cX7_isGraded 5 = .ok (.aload_n 0, 1) := by decide +kernel
theorem dX7_isGraded_6 : decode cX7_isGraded 6 = .ok (.invokevirtual 284, 3) := by decide +kernel
theorem dX7_isGraded_9 : decode cX7_isGraded 9 = .ok (.ireturn, 1) := by decide +kernel
theorem dX7_alternating_0 : decode cX7_alternating 0 = .ok (.aload_n 0, 1) := by decide +kernel
theorem dX7_alternating_1 : decode cX7_alternating 1 = .ok (.iconst 0, 1) := by decide +kernel
theorem dX7_alternating_2 : decode cX7_alternating 2 = .ok (.putfield 52, 3) := by decide +kernel
theorem dX7_alternating_5 : decode cX7_alternating 5 = .ok (.aload_n 0, 1) := by decide +kernel
theorem dX7_alternating_6 : decode cX7_alternating 6 = .ok (.invokevirtual 217, 3) := by decide +kernel
theorem dX7_alternating_9 : decode cX7_alternating 9 = .ok (.iconst 0, 1) := by decide +kernel
theorem dX7_alternating_10 : decode cX7_alternating 10 = .ok (.istore_n 1, 1) := by decide +kernel
theorem dX7_alternating_11 : decode cX7_alternating 11 = .ok (.iconst 0, 1) := by decide +kernel
theorem dX7_alternating_12 : decode cX7_alternating 12 = .ok (.istore_n 2, 1) := by decide +kernel
theorem dX7_alternating_13 : decode cX7_alternating 13 = .ok (.iload_n 2, 1) := by decide +kernel
theorem dX7_alternating_14 : decode cX7_alternating 14 = .ok (.aload_n 0, 1) := by decide +kernel
theorem dX7_alternating_15 : decode cX7_alternating 15 = .ok (.getfield 214, 3) := by decide +kernel
theorem dX7_alternating_18 : decode cX7_alternating 18 = .ok (.if_icmp .ge 27, 3) := by decide +kernel
theorem dX7_alternating_21 : decode cX7_alternating 21 = .ok (.iload_n 1, 1) := by decide +kernel
theorem dX7_alternating_22 : decode cX7_alternating 22 = .ok (.aload_n 0, 1) := by decide +kernel
theorem dX7_alternating_23 : decode cX7_alternating 23 = .ok (.iload_n 2, 1) := by decide +kernel
theorem dX7_alternating_24 : decode cX7_alternating 24 = .ok (.invokevirtual 263, 3) := by decide +kernel
theorem dX7_alternating_27 : decode cX7_alternating 27 = .ok (.iconst 2, 1) := by decide +kernel
theorem dX7_alternating_28 : decode cX7_alternating 28 = .ok (.irem, 1) := by decide +kernel
theorem dX7_alternating_29 : decode cX7_alternating 29 = .ok (.ifCond .ne 7, 3) := by decide +kernel
theorem dX7_alternating_32 : decode cX7_alternating 32 = .ok (.iconst 1, 1) := by decide +kernel
theorem dX7_alternating_33 : decode cX7_alternating 33 = .ok (.goto 4, 3) := by decide +kernel
theorem dX7_alternating_36 : decode cX7_alternating 36 = .ok (.iconst (-1), 1) := by decide +kernel
theorem dX7_alternating_37 : decode cX7_alternating 37 = .ok (.iadd, 1) := by decide +kernel
theorem dX7_alternating_38 : decode cX7_alternating 38 = .ok (.istore_n 1, 1) := by decide +kernel
theorem dX7_alternating_39 : decode cX7_alternating 39 = .ok (.iinc 2 1, 3) := by decide +kernel
theorem dX7_alternating_42 : decode cX7_alternating 42 = .ok (.goto (-29), 3) := by decide +kernel
theorem dX7_alternating_45 : decode cX7_alternating 45 = .ok (.iload_n 1, 1) := by decide +kernel
theorem dX7_alternating_46 : decode cX7_alternating 46 = .ok (.ireturn, 1) := by decide +kernel
theorem dX7_isEulerian_0 : decode cX7_isEulerian 0 = .ok (.aload_n 0, 1) := by decide +kernel
theorem dX7_isEulerian_1 : decode cX7_isEulerian 1 = .ok (.iconst 0, 1) := by decide +kernel
theorem dX7_isEulerian_2 : decode cX7_isEulerian 2 = .ok (.putfield 52, 3) := by decide +kernel
theorem dX7_isEulerian_5 : decode cX7_isEulerian 5 = .ok (.aload_n 0, 1) := by decide +kernel
theorem dX7_isEulerian_6 : decode cX7_isEulerian 6 = .ok (.invokevirtual 284, 3) := by decide +kernel
theorem dX7_isEulerian_9 : decode cX7_isEulerian 9 = .ok (.ifCond .ne 5, 3) := by decide +kernel
theorem dX7_isEulerian_12 : decode cX7_isEulerian 12 = .ok (.iconst 0, 1) := by decide +kernel
theorem dX7_isEulerian_13 : decode cX7_isEulerian 13 = .ok (.ireturn, 1) := by decide +kernel
theorem dX7_isEulerian_14 : decode cX7_isEulerian 14 = .ok (.iconst 0, 1) := by decide +kernel
theorem dX7_isEulerian_15 : decode cX7_isEulerian 15 = .ok (.istore_n 1, 1) := by decide +kernel
theorem dX7_isEulerian_16 : decode cX7_isEulerian 16 = .ok (.iload_n 1, 1) := by decide +kernel
theorem dX7_isEulerian_17 : decode cX7_isEulerian 17 = .ok (.aload_n 0, 1) := by decide +kernel
theorem dX7_isEulerian_18 : decode cX7_isEulerian 18 = .ok (.getfield 214, 3) := by decide +kernel
theorem dX7_isEulerian_21 : decode cX7_isEulerian 21 = .ok (.if_icmp .ge 71, 3) := by decide +kernel
theorem dX7_isEulerian_24 : decode cX7_isEulerian 24 = .ok (.aload_n 0, 1) := by decide +kernel
theorem dX7_isEulerian_25 : decode cX7_isEulerian 25 = .ok (.iload_n 1, 1) := by decide +kernel
theorem dX7_isEulerian_26 : decode cX7_isEulerian 26 = .ok (.invokevirtual 281, 3) := by decide +kernel
theorem dX7_isEulerian_29 : decode cX7_isEulerian 29 = .ok (.iconst 0, 1) := by decide +kernel
theorem dX7_isEulerian_30 : decode cX7_isEulerian 30 = .ok (.istore_n 2, 1) := by decide +kernel
theorem dX7_isEulerian_31 : decode cX7_isEulerian 31 = .ok (.iload_n 2, 1) := by decide +kernel
theorem dX7_isEulerian_32 : decode cX7_isEulerian 32 = .ok (.aload_n 0, 1) := by decide +kernel
theorem dX7_isEulerian_33 : decode cX7_isEulerian 33 = .ok (.getfield 214, 3) := by decide +kernel
theorem dX7_isEulerian_36 : decode cX7_isEulerian 36 = .ok (.if_icmp .ge 50, 3) := by decide +kernel
theorem dX7_isEulerian_39 : decode cX7_isEulerian 39 = .ok (.aload_n 0, 1) := by decide +kernel
theorem dX7_isEulerian_40 : decode cX7_isEulerian 40 = .ok (.iload_n 1, 1) := by decide +kernel
theorem dX7_isEulerian_41 : decode cX7_isEulerian 41 = .ok (.iload_n 2, 1) := by decide +kernel
theorem dX7_isEulerian_42 : decode cX7_isEulerian 42 = .ok (.invokevirtual 272, 3) := by decide +kernel
theorem dX7_isEulerian_45 : decode cX7_isEulerian 45 = .ok (.ifCond .eq 35, 3) := by decide +kernel
theorem dX7_isEulerian_48 : decode cX7_isEulerian 48 = .ok (.aload_n 0, 1) := by decide +kernel
theorem dX7_isEulerian_49 : decode cX7_isEulerian 49 = .ok (.getfield 37, 3) := by decide +kernel
theorem dX7_isEulerian_52 : decode cX7_isEulerian 52 = .ok (.iload_n 2, 1) := by decide +kernel
theorem dX7_isEulerian_53 : decode cX7_isEulerian 53 = .ok (.iaload, 1) := by decide +kernel
theorem dX7_isEulerian_54 : decode cX7_isEulerian 54 = .ok (.aload_n 0, 1) := by decide +kernel
theorem dX7_isEulerian_55 : decode cX7_isEulerian 55 = .ok (.iload_n 2, 1) := by decide +kernel
theorem dX7_isEulerian_56 : decode cX7_isEulerian 56 = .ok (.invokevirtual 263, 3) := by decide +kernel
theorem dX7_isEulerian_59 : decode cX7_isEulerian 59 = .ok (.aload_n 0, 1) := by decide +kernel
theorem dX7_isEulerian_60 : decode cX7_isEulerian 60 = .ok (.iload_n 1, 1) := by decide +kernel
theorem dX7_isEulerian_61 : decode cX7_isEulerian 61 = .ok (.invokevirtual 263, 3) := by decide +kernel
theorem dX7_isEulerian_64 : decode cX7_isEulerian 64 = .ok (.isub, 1) := by decide +kernel
theorem dX7_isEulerian_65 : decode cX7_isEulerian 65 = .ok (.iconst 2, 1) := by decide +kernel
theorem dX7_isEulerian_66 : decode cX7_isEulerian 66 = .ok (.irem, 1) := by decide +kernel
theorem dX7_isEulerian_67 : decode cX7_isEulerian 67 = .ok (.ifCond .ne 7, 3) := by decide +kernel
theorem dX7_isEulerian_70 : decode cX7_isEulerian 70 = .ok (.iconst 1, 1) := by decide +kernel
theorem dX7_isEulerian_71 : decode cX7_isEulerian 71 = .ok (.goto 4, 3) := by decide +kernel
theorem dX7_isEulerian_74 : decode cX7_isEulerian 74 = .ok (.iconst (-1), 1) := by decide +kernel
theorem dX7_isEulerian_75 : decode cX7_isEulerian 75 = .ok (.if_icmp .eq 5, 3) := by decide +kernel
theorem dX7_isEulerian_78 : decode cX7_isEulerian 78 = .ok (.iconst 0, 1) := by decide +kernel
theorem dX7_isEulerian_79 : decode cX7_isEulerian 79 = .ok (.ireturn, 1) := by decide +kernel
theorem dX7_isEulerian_80 : decode cX7_isEulerian 80 = .ok (.iinc 2 1, 3) := by decide +kernel
theorem dX7_isEulerian_83 : decode cX7_isEulerian 83 = .ok (.goto (-52), 3) := by decide +kernel
theorem dX7_isEulerian_86 : decode cX7_isEulerian 86 = .ok (.iinc 1 1, 3) := by decide +kernel
theorem dX7_isEulerian_89 : decode cX7_isEulerian 89 = .ok (.goto (-73), 3) := by decide +kernel
theorem dX7_isEulerian_92 : decode cX7_isEulerian 92 = .ok (.iconst 1, 1) := by decide +kernel
theorem dX7_isEulerian_93 : decode cX7_isEulerian 93 = .ok (.ireturn, 1) := by decide +kernel
theorem dX7_isSimplicial_0 : decode cX7_isSimplicial 0 = .ok (.aload_n 0, 1) := by decide +kernel
theorem dX7_isSimplicial_1 : decode cX7_isSimplicial 1 = .ok (.iconst 0, 1) := by decide +kernel
theorem dX7_isSimplicial_2 : decode cX7_isSimplicial 2 = .ok (.putfield 52, 3) := by decide +kernel
theorem dX7_isSimplicial_5 : decode cX7_isSimplicial 5 = .ok (.aload_n 0, 1) := by decide +kernel
theorem dX7_isSimplicial_6 : decode cX7_isSimplicial 6 = .ok (.invokevirtual 217, 3) := by decide +kernel
theorem dX7_isSimplicial_9 : decode cX7_isSimplicial 9 = .ok (.iconst 1, 1) := by decide +kernel
theorem dX7_isSimplicial_10 : decode cX7_isSimplicial 10 = .ok (.istore_n 1, 1) := by decide +kernel
theorem dX7_isSimplicial_11 : decode cX7_isSimplicial 11 = .ok (.iconst 0, 1) := by decide +kernel
theorem dX7_isSimplicial_12 : decode cX7_isSimplicial 12 = .ok (.istore_n 2, 1) := by decide +kernel
theorem dX7_isSimplicial_13 : decode cX7_isSimplicial 13 = .ok (.iload_n 2, 1) := by decide +kernel
theorem dX7_isSimplicial_14 : decode cX7_isSimplicial 14 = .ok (.aload_n 0, 1) := by decide +kernel
theorem dX7_isSimplicial_15 : decode cX7_isSimplicial 15 = .ok (.getfield 214, 3) := by decide +kernel
theorem dX7_isSimplicial_18 : decode cX7_isSimplicial 18 = .ok (.iconst 1, 1) := by decide +kernel
theorem dX7_isSimplicial_19 : decode cX7_isSimplicial 19 = .ok (.isub, 1) := by decide +kernel
theorem dX7_isSimplicial_20 : decode cX7_isSimplicial 20 = .ok (.if_icmp .ge 35, 3) := by decide +kernel
theorem dX7_isSimplicial_23 : decode cX7_isSimplicial 23 = .ok (.iload_n 1, 1) := by decide +kernel
theorem dX7_isSimplicial_24 : decode cX7_isSimplicial 24 = .ok (.ifCond .eq 23, 3) := by decide +kernel
theorem dX7_isSimplicial_27 : decode cX7_isSimplicial 27 = .ok (.aload_n 0, 1) := by decide +kernel
theorem dX7_isSimplicial_28 : decode cX7_isSimplicial 28 = .ok (.iconst 0, 1) := by decide +kernel
theorem dX7_isSimplicial_29 : decode cX7_isSimplicial 29 = .ok (.iload_n 2, 1) := by decide +kernel
theorem dX7_isSimplicial_30 : decode cX7_isSimplicial 30 = .ok (.invokevirtual 275, 3) := by decide +kernel
theorem dX7_isSimplicial_33 : decode cX7_isSimplicial 33 = .ok (.iconst 1, 1) := by decide +kernel
theorem dX7_isSimplicial_34 : decode cX7_isSimplicial 34 = .ok (.aload_n 0, 1) := by decide +kernel
theorem dX7_isSimplicial_35 : decode cX7_isSimplicial 35 = .ok (.iload_n 2, 1) := by decide +kernel
theorem dX7_isSimplicial_36 : decode cX7_isSimplicial 36 = .ok (.invokevirtual 263, 3) := by decide +kernel
theorem dX7_isSimplicial_39 : decode cX7_isSimplicial 39 = .ok (.ishl, 1) := by decide +kernel
theorem dX7_isSimplicial_40 : decode cX7_isSimplicial 40 = .ok (.if_icmp .ne 7, 3) := by decide +kernel
theorem dX7_isSimplicial_43 : decode cX7_isSimplicial 43 = .ok (.iconst 1, 1) := by decide +kernel
theorem dX7_isSimplicial_44 : decode cX7_isSimplicial 44 = .ok (.goto 4, 3) := by decide +kernel
theorem dX7_isSimplicial_47 : decode cX7_isSimplicial 47 = .ok (.iconst 0, 1) := by decide +kernel
theorem dX7_isSimplicial_48 : decode cX7_isSimplicial 48 = .ok (.istore_n 1, 1) := by decide +kernel
theorem dX7_isSimplicial_49 : decode cX7_isSimplicial 49 = .ok (.iinc 2 1, 3) := by decide +kernel
theorem dX7_isSimplicial_52 : decode cX7_isSimplicial 52 = .ok (.goto (-39), 3) := by decide +kernel
theorem dX7_isSimplicial_55 : decode cX7_isSimplicial 55 = .ok (.iload_n 1, 1) := by decide +kernel
theorem dX7_isSimplicial_56 : decode cX7_isSimplicial 56 = .ok (.ireturn, 1) := by decide +kernel
theorem dX7_isSimple_0 : decode cX7_isSimple 0 = .ok (.aload_n 0, 1) := by decide +kernel
theorem dX7_isSimple_1 : decode cX7_isSimple 1 = .ok (.iconst 0, 1) := by decide +kernel
theorem dX7_isSimple_2 : decode cX7_isSimple 2 = .ok (.putfield 52, 3) := by decide +kernel
theorem dX7_isSimple_5 : decode cX7_isSimple 5 = .ok (.aload_n 0, 1) := by decide +kernel
theorem dX7_isSimple_6 : decode cX7_isSimple 6 = .ok (.invokevirtual 217, 3) := by decide +kernel
theorem dX7_isSimple_9 : decode cX7_isSimple 9 = .ok (.iconst 1, 1) := by decide +kernel
theorem dX7_isSimple_10 : decode cX7_isSimple 10 = .ok (.istore_n 1, 1) := by decide +kernel
theorem dX7_isSimple_11 : decode cX7_isSimple 11 = .ok (.iconst 1, 1) := by decide +kernel
theorem dX7_isSimple_12 : decode cX7_isSimple 12 = .ok (.istore_n 2, 1) := by decide +kernel
theorem dX7_isSimple_13 : decode cX7_isSimple 13 = .ok (.iload_n 2, 1) := by decide +kernel
theorem dX7_isSimple_14 : decode cX7_isSimple 14 = .ok (.aload_n 0, 1) := by decide +kernel
theorem dX7_isSimple_15 : decode cX7_isSimple 15 = .ok (.getfield 214, 3) := by decide +kernel
theorem dX7_isSimple_18 : decode cX7_isSimple 18 = .ok (.if_icmp .ge 45, 3) := by decide +kernel
theorem dX7_isSimple_21 : decode cX7_isSimple 21 = .ok (.iload_n 1, 1) := by decide +kernel
theorem dX7_isSimple_22 : decode cX7_isSimple 22 = .ok (.ifCond .eq 33, 3) := by decide +kernel
theorem dX7_isSimple_25 : decode cX7_isSimple 25 = .ok (.aload_n 0, 1) := by decide +kernel
theorem dX7_isSimple_26 : decode cX7_isSimple 26 = .ok (.iload_n 2, 1) := by decide +kernel
theorem dX7_isSimple_27 : decode cX7_isSimple 27 = .ok (.aload_n 0, 1) := by decide +kernel
theorem dX7_isSimple_28 : decode cX7_isSimple 28 = .ok (.getfield 214, 3) := by decide +kernel
theorem dX7_isSimple_31 : decode cX7_isSimple 31 = .ok (.iconst 1, 1) := by decide +kernel
theorem dX7_isSimple_32 : decode cX7_isSimple 32 = .ok (.isub, 1) := by decide +kernel
theorem dX7_isSimple_33 : decode cX7_isSimple 33 = .ok (.invokevirtual 275, 3) := by decide +kernel
theorem dX7_isSimple_36 : decode cX7_isSimple 36 = .ok (.iconst 1, 1) := by decide +kernel
theorem dX7_isSimple_37 : decode cX7_isSimple 37 = .ok (.aload_n 0, 1) := by decide +kernel
theorem dX7_isSimple_38 : decode cX7_isSimple 38 = .ok (.invokevirtual 266, 3) := by decide +kernel
theorem dX7_isSimple_41 : decode cX7_isSimple 41 = .ok (.aload_n 0, 1) := by decide +kernel
theorem dX7_isSimple_42 : decode cX7_isSimple 42 = .ok (.iload_n 2, 1) := by decide +kernel
theorem dX7_isSimple_43 : decode cX7_isSimple 43 = .ok (.invokevirtual 263, 3) := by decide +kernel
theorem dX7_isSimple_46 : decode cX7_isSimple 46 = .ok (.isub, 1) := by decide +kernel
theorem dX7_isSimple_47 : decode cX7_isSimple 47 = .ok (.ishl, 1) := by decide +kernel
theorem dX7_isSimple_48 : decode cX7_isSimple 48 = .ok (.if_icmp .ne 7, 3) := by decide +kernel
theorem dX7_isSimple_51 : decode cX7_isSimple 51 = .ok (.iconst 1, 1) := by decide +kernel
theorem dX7_isSimple_52 : decode cX7_isSimple 52 = .ok (.goto 4, 3) := by decide +kernel
theorem dX7_isSimple_55 : decode cX7_isSimple 55 = .ok (.iconst 0, 1) := by decide +kernel
theorem dX7_isSimple_56 : decode cX7_isSimple 56 = .ok (.istore_n 1, 1) := by decide +kernel
theorem dX7_isSimple_57 : decode cX7_isSimple 57 = .ok (.iinc 2 1, 3) := by decide +kernel
theorem dX7_isSimple_60 : decode cX7_isSimple 60 = .ok (.goto (-47), 3) := by decide +kernel
theorem dX7_isSimple_63 : decode cX7_isSimple 63 = .ok (.iload_n 1, 1) := by decide +kernel
theorem dX7_isSimple_64 : decode cX7_isSimple 64 = .ok (.ireturn, 1) := by decide +kernel
theorem dX7_flags_0 : decode cX7_flags 0 = .ok (.aload_n 0, 1) := by decide +kernel
theorem dX7_flags_1 : decode cX7_flags 1 = .ok (.iconst 0, 1) := by decide +kernel
theorem dX7_flags_2 : decode cX7_flags 2 = .ok (.putfield 52, 3) := by decide +kernel
theorem dX7_flags_5 : decode cX7_flags 5 = .ok (.aload_n 0, 1) := by decide +kernel
theorem dX7_flags_6 : decode cX7_flags 6 = .ok (.invokevirtual 217, 3) := by decide +kernel
theorem dX7_flags_9 : decode cX7_flags 9 = .ok (.aload_n 0, 1) := by decide +kernel
theorem dX7_flags_10 : decode cX7_flags 10 = .ok (.iconst 0, 1) := by decide +kernel
theorem dX7_flags_11 : decode cX7_flags 11 = .ok (.aload_n 0, 1) := by decide +kernel
theorem dX7_flags_12 : decode cX7_flags 12 = .ok (.getfield 214, 3) := by decide +kernel
theorem dX7_flags_15 : decode cX7_flags 15 = .ok (.iconst 1, 1) := by decide +kernel
theorem dX7_flags_16 : decode cX7_flags 16 = .ok (.isub, 1) := by decide +kernel
theorem dX7_flags_17 : decode cX7_flags 17 = .ok (.invokevirtual 278, 3) := by decide +kernel
theorem dX7_flags_20 : decode cX7_flags 20 = .ok (.ireturn, 1) := by decide +kernel
theorem dX7_facetNeighbours_0 : decode cX7_facetNeighbours 0 = .ok (.aload_n 0, 1) := by decide +kernel
theorem dX7_facetNeighbours_1 : decode cX7_facetNeighbours 1 = .ok (.invokevirtual 217, 3) := by decide +kernel
theorem dX7_facetNeighbours_4 : decode cX7_facetNeighbours 4 = .ok (.iconst 0, 1) := by decide +kernel
theorem dX7_facetNeighbours_5 : decode cX7_facetNeighbours 5 = .ok (.istore_n 2, 1) := by decide +kernel
theorem dX7_facetNeighbours_6 : decode cX7_facetNeighbours 6 = .ok (.aload_n 0, 1) := by decide +kernel
theorem dX7_facetNeighbours_7 : decode cX7_facetNeighbours 7 = .ok (.getfield 13, 3) := by decide +kernel
theorem dX7_facetNeighbours_10 : decode cX7_facetNeighbours 10 = .ok (.iconst 2, 1) := by decide +kernel
theorem dX7_facetNeighbours_11 : decode cX7_facetNeighbours 11 = .ok (.iload_n 1, 1) := by decide +kernel
theorem dX7_facetNeighbours_12 : decode cX7_facetNeighbours 12 = .ok (.iadd, 1) := by decide +kernel
theorem dX7_facetNeighbours_13 : decode cX7_facetNeighbours 13 = .ok (.iaload, 1) := by decide +kernel
theorem dX7_facetNeighbours_14 : decode cX7_facetNeighbours 14 = .ok (.istore_n 3, 1) := by decide +kernel
theorem dX7_facetNeighbours_15 : decode cX7_facetNeighbours 15 = .ok (.iconst 0, 1) := by decide +kernel
theorem dX7_facetNeighbours_16 : decode cX7_facetNeighbours 16 = .ok (.istore 4, 2) := by decide +kernel
theorem dX7_facetNeighbours_18 : decode cX7_facetNeighbours 18 = .ok (.iload 4, 2) := by decide +kernel
theorem dX7_facetNeighbours_20 : decode cX7_facetNeighbours 20 = .ok (.aload_n 0, 1) := by decide +kernel
theorem dX7_facetNeighbours_21 : decode cX7_facetNeighbours 21 = .ok (.getfield 13, 3) := by decide +kernel
theorem dX7_facetNeighbours_24 : decode cX7_facetNeighbours 24 = .ok (.iconst 1, 1) := by decide +kernel
theorem dX7_facetNeighbours_25 : decode cX7_facetNeighbours 25 = .ok (.iaload, 1) := by decide +kernel
theorem dX7_facetNeighbours_26 : decode cX7_facetNeighbours 26 = .ok (.if_icmp .ge 62, 3) := by decide +kernel
theorem dX7_facetNeighbours_29 : decode cX7_facetNeighbours 29 = .ok (.aload_n 0, 1) := by decide +kernel
theorem dX7_facetNeighbours_30 : decode cX7_facetNeighbours 30 = .ok (.getfield 13, 3) := by decide +kernel
theorem dX7_facetNeighbours_33 : decode cX7_facetNeighbours 33 = .ok (.iconst 2, 1) := by decide +kernel
theorem dX7_facetNeighbours_34 : decode cX7_facetNeighbours 34 = .ok (.iload 4, 2) := by decide +kernel
theorem dX7_facetNeighbours_36 : decode cX7_facetNeighbours 36 = .ok (.iadd, 1) := by decide +kernel
theorem dX7_facetNeighbours_37 : decode cX7_facetNeighbours 37 = .ok (.iaload, 1) := by decide +kernel
theorem dX7_facetNeighbours_38 : decode cX7_facetNeighbours 38 = .ok (.istore 5, 2) := by decide +kernel
theorem dX7_facetNeighbours_40 : decode cX7_facetNeighbours 40 = .ok (.iload_n 2, 1) := by decide +kernel
theorem dX7_facetNeighbours_41 : decode cX7_facetNeighbours 41 = .ok (.iload_n 3, 1) := by decide +kernel
theorem dX7_facetNeighbours_42 : decode cX7_facetNeighbours 42 = .ok (.iload 5, 2) := by decide +kernel
theorem dX7_facetNeighbours_44 : decode cX7_facetNeighbours 44 = .ok (.if_icmp .eq 35, 3) := by decide +kernel
theorem dX7_facetNeighbours_47 : decode cX7_facetNeighbours 47 = .ok (.aload_n 0, 1) := by decide +kernel
theorem dX7_facetNeighbours_48 : decode cX7_facetNeighbours 48 = .ok (.iload_n 3, 1) := by decide +kernel
theorem dX7_facetNeighbours_49 : decode cX7_facetNeighbours 49 = .ok (.iload_n 3, 1) := by decide +kernel
theorem dX7_facetNeighbours_50 : decode cX7_facetNeighbours 50 = .ok (.iload 5, 2) := by decide +kernel
theorem dX7_facetNeighbours_52 : decode cX7_facetNeighbours 52 = .ok (.iand, 1) := by decide +kernel
theorem dX7_facetNeighbours_53 : decode cX7_facetNeighbours 53 = .ok (.invokevirtual 202, 3) := by decide +kernel
theorem dX7_facetNeighbours_56 : decode cX7_facetNeighbours 56 = .ok (.ifCond .eq 23, 3) := by decide +kernel
theorem dX7_facetNeighbours_59 : decode cX7_facetNeighbours 59 = .ok (.aload_n 0, 1) := by decide +kernel
theorem dX7_facetNeighbours_60 : decode cX7_facetNeighbours 60 = .ok (.iload 5, 2) := by decide +kernel
theorem dX7_facetNeighbours_62 : decode cX7_facetNeighbours 62 = .ok (.iload_n 3, 1) := by decide +kernel
theorem dX7_facetNeighbours_63 : decode cX7_facetNeighbours 63 = .ok (.iload 5, 2) := by decide +kernel
theorem dX7_facetNeighbours_65 : decode cX7_facetNeighbours 65 = .ok (.iand, 1) := by decide +kernel
theorem dX7_facetNeighbours_66 : decode cX7_facetNeighbours 66 = .ok (.invokevirtual 202, 3) := by decide +kernel
theorem dX7_facetNeighbours_69 : decode cX7_facetNeighbours 69 = .ok (.ifCond .eq 10, 3) := by decide +kernel
theorem dX7_facetNeighbours_72 : decode cX7_facetNeighbours 72 = .ok (.iconst 1, 1) := by decide +kernel
theorem dX7_facetNeighbours_73 : decode cX7_facetNeighbours 73 = .ok (.iload 4, 2) := by decide +kernel
theorem dX7_facetNeighbours_75 : decode cX7_facetNeighbours 75 = .ok (.ishl, 1) := by decide +kernel
theorem dX7_facetNeighbours_76 : decode cX7_facetNeighbours 76 = .ok (.goto 4, 3) := by decide +kernel
theorem dX7_facetNeighbours_79 : decode cX7_facetNeighbours 79 = .ok (.iconst 0, 1) := by decide +kernel
theorem dX7_facetNeighbours_80 : decode cX7_facetNeighbours 80 = .ok (.ior, 1) := by decide +kernel
theorem dX7_facetNeighbours_81 : decode cX7_facetNeighbours 81 = .ok (.istore_n 2, 1) := by decide +kernel
theorem dX7_facetNeighbours_82 : decode cX7_facetNeighbours 82 = .ok (.iinc 4 1, 3) := by decide +kernel
theorem dX7_facetNeighbours_85 : decode cX7_facetNeighbours 85 = .ok (.goto (-67), 3) := by decide +kernel
theorem dX7_facetNeighbours_88 : decode cX7_facetNeighbours 88 = .ok (.iload_n 2, 1) := by decide +kernel
theorem dX7_facetNeighbours_89 : decode cX7_facetNeighbours 89 = .ok (.ireturn, 1) := by decide +kernel
theorem dX7_near_0 : decode cX7_near 0 = .ok (.iload_n 2, 1) := by decide +kernel
theorem dX7_near_1 : decode cX7_near 1 = .ok (.ifCond .eq 11, 3) := by decide +kernel
theorem dX7_near_4 : decode cX7_near 4 = .ok (.aload_n 0, 1) := by decide +kernel
theorem dX7_near_5 : decode cX7_near 5 = .ok (.iload_n 1, 1) := by decide +kernel
theorem dX7_near_6 : decode cX7_near 6 = .ok (.invokevirtual 287, 3) := by decide +kernel
theorem dX7_near_9 : decode cX7_near 9 = .ok (.goto 8, 3) := by decide +kernel
theorem dX7_near_12 : decode cX7_near 12 = .ok (.aload_n 0, 1) := by decide +kernel
theorem dX7_near_13 : decode cX7_near 13 = .ok (.iload_n 1, 1) := by decide +kernel
theorem dX7_near_14 : decode cX7_near 14 = .ok (.invokevirtual 248, 3) := by decide +kernel
theorem dX7_near_17 : decode cX7_near 17 = .ok (.ireturn, 1) := by decide +kernel
theorem dX7_isOne_0 : decode cX7_isOne 0 = .ok (.iload_n 2, 1) := by decide +kernel
theorem dX7_isOne_1 : decode cX7_isOne 1 = .ok (.ifCond .eq 11, 3) := by decide +kernel
theorem dX7_isOne_4 : decode cX7_isOne 4 = .ok (.aload_n 0, 1) := by decide +kernel
theorem dX7_isOne_5 : decode cX7_isOne 5 = .ok (.iload_n 1, 1) := by decide +kernel
theorem dX7_isOne_6 : decode cX7_isOne 6 = .ok (.invokevirtual 223, 3) := by decide +kernel
theorem dX7_isOne_9 : decode cX7_isOne 9 = .ok (.goto 8, 3) := by decide +kernel
theorem dX7_isOne_12 : decode cX7_isOne 12 = .ok (.aload_n 0, 1) := by decide +kernel
theorem dX7_isOne_13 : decode cX7_isOne 13 = .ok (.iload_n 1, 1) := by decide +kernel
theorem dX7_isOne_14 : decode cX7_isOne 14 = .ok (.invokevirtual 220, 3) := by decide +kernel
theorem dX7_isOne_17 : decode cX7_isOne 17 = .ok (.ireturn, 1) := by decide +kernel
theorem dX7_laySteps_0 : decode cX7_laySteps 0 = .ok (.iload_n 2, 1) := by decide +kernel
theorem dX7_laySteps_1 : decode cX7_laySteps 1 = .ok (.ifCond .eq 12, 3) := by decide +kernel
theorem dX7_laySteps_4 : decode cX7_laySteps 4 = .ok (.aload_n 0, 1) := by decide +kernel
theorem dX7_laySteps_5 : decode cX7_laySteps 5 = .ok (.getfield 13, 3) := by decide +kernel
theorem dX7_laySteps_8 : decode cX7_laySteps 8 = .ok (.iconst 1, 1) := by decide +kernel
theorem dX7_laySteps_9 : decode cX7_laySteps 9 = .ok (.iaload, 1) := by decide +kernel
theorem dX7_laySteps_10 : decode cX7_laySteps 10 = .ok (.goto 9, 3) := by decide +kernel
theorem dX7_laySteps_13 : decode cX7_laySteps 13 = .ok (.aload_n 0, 1) := by decide +kernel
theorem dX7_laySteps_14 : decode cX7_laySteps 14 = .ok (.getfield 13, 3) := by decide +kernel
theorem dX7_laySteps_17 : decode cX7_laySteps 17 = .ok (.iconst 0, 1) := by decide +kernel
theorem dX7_laySteps_18 : decode cX7_laySteps 18 = .ok (.iaload, 1) := by decide +kernel
theorem dX7_laySteps_19 : decode cX7_laySteps 19 = .ok (.istore_n 3, 1) := by decide +kernel
theorem dX7_laySteps_20 : decode cX7_laySteps 20 = .ok (.iconst 0, 1) := by decide +kernel
theorem dX7_laySteps_21 : decode cX7_laySteps 21 = .ok (.istore 4, 2) := by decide +kernel
theorem dX7_laySteps_23 : decode cX7_laySteps 23 = .ok (.iload 4, 2) := by decide +kernel
theorem dX7_laySteps_25 : decode cX7_laySteps 25 = .ok (.iload_n 3, 1) := by decide +kernel
theorem dX7_laySteps_26 : decode cX7_laySteps 26 = .ok (.if_icmp .ge 27, 3) := by decide +kernel
theorem dX7_laySteps_29 : decode cX7_laySteps 29 = .ok (.aload_n 0, 1) := by decide +kernel
theorem dX7_laySteps_30 : decode cX7_laySteps 30 = .ok (.getfield 40, 3) := by decide +kernel
theorem dX7_laySteps_33 : decode cX7_laySteps 33 = .ok (.iload 4, 2) := by decide +kernel
theorem dX7_laySteps_35 : decode cX7_laySteps 35 = .ok (.iload 4, 2) := by decide +kernel
theorem dX7_laySteps_37 : decode cX7_laySteps 37 = .ok (.iload_n 1, 1) := by decide +kernel
theorem dX7_laySteps_38 : decode cX7_laySteps 38 = .ok (.if_icmp .ne 7, 3) := by decide +kernel
theorem dX7_laySteps_41 : decode cX7_laySteps 41 = .ok (.iconst 0, 1) := by decide +kernel
theorem dX7_laySteps_42 : decode cX7_laySteps 42 = .ok (.goto 4, 3) := by decide +kernel
theorem dX7_laySteps_45 : decode cX7_laySteps 45 = .ok (.iconst (-1), 1) := by decide +kernel
theorem dX7_laySteps_46 : decode cX7_laySteps 46 = .ok (.iastore, 1) := by decide +kernel
theorem dX7_laySteps_47 : decode cX7_laySteps 47 = .ok (.iinc 4 1, 3) := by decide +kernel
theorem dX7_laySteps_50 : decode cX7_laySteps 50 = .ok (.goto (-27), 3) := by decide +kernel
theorem dX7_laySteps_53 : decode cX7_laySteps 53 = .ok (.iconst 0, 1) := by decide +kernel
theorem dX7_laySteps_54 : decode cX7_laySteps 54 = .ok (.istore 4, 2) := by decide +kernel
theorem dX7_laySteps_56 : decode cX7_laySteps 56 = .ok (.iload 4, 2) := by decide +kernel
theorem dX7_laySteps_58 : decode cX7_laySteps 58 = .ok (.iload_n 3, 1) := by decide +kernel
theorem dX7_laySteps_59 : decode cX7_laySteps 59 = .ok (.if_icmp .ge 106, 3) := by decide +kernel
theorem dX7_laySteps_62 : decode cX7_laySteps 62 = .ok (.iconst 0, 1) := by decide +kernel
theorem dX7_laySteps_63 : decode cX7_laySteps 63 = .ok (.istore 5, 2) := by decide +kernel
theorem dX7_laySteps_65 : decode cX7_laySteps 65 = .ok (.iload 5, 2) := by decide +kernel
theorem dX7_laySteps_67 : decode cX7_laySteps 67 = .ok (.iload_n 3, 1) := by decide +kernel
theorem dX7_laySteps_68 : decode cX7_laySteps 68 = .ok (.if_icmp .ge 91, 3) := by decide +kernel
theorem dX7_laySteps_71 : decode cX7_laySteps 71 = .ok (.aload_n 0, 1) := by decide +kernel
theorem dX7_laySteps_72 : decode cX7_laySteps 72 = .ok (.getfield 40, 3) := by decide +kernel
theorem dX7_laySteps_75 : decode cX7_laySteps 75 = .ok (.iload 5, 2) := by decide +kernel
theorem dX7_laySteps_77 : decode cX7_laySteps 77 = .ok (.iaload, 1) := by decide +kernel
theorem dX7_laySteps_78 : decode cX7_laySteps 78 = .ok (.iload 4, 2) := by decide +kernel
theorem dX7_laySteps_80 : decode cX7_laySteps 80 = .ok (.if_icmp .ne 13, 3) := by decide +kernel
theorem dX7_laySteps_83 : decode cX7_laySteps 83 = .ok (.aload_n 0, 1) := by decide +kernel
theorem dX7_laySteps_84 : decode cX7_laySteps 84 = .ok (.iload 5, 2) := by decide +kernel
theorem dX7_laySteps_86 : decode cX7_laySteps 86 = .ok (.iload_n 2, 1) := by decide +kernel
theorem dX7_laySteps_87 : decode cX7_laySteps 87 = .ok (.invokevirtual 290, 3) := by decide +kernel
theorem dX7_laySteps_90 : decode cX7_laySteps 90 = .ok (.goto 4, 3) := by decide +kernel
theorem dX7_laySteps_93 : decode cX7_laySteps 93 = .ok (.iconst 0, 1) := by decide +kernel
theorem dX7_laySteps_94 : decode cX7_laySteps 94 = .ok (.istore 6, 2) := by decide +kernel
theorem dX7_laySteps_96 : decode cX7_laySteps 96 = .ok (.iconst 0, 1) := by decide +kernel
theorem dX7_laySteps_97 : decode cX7_laySteps 97 = .ok (.istore 7, 2) := by decide +kernel
theorem dX7_laySteps_99 : decode cX7_laySteps 99 = .ok (.iload 7, 2) := by decide +kernel
theorem dX7_laySteps_101 : decode cX7_laySteps 101 = .ok (.iload_n 3, 1) := by decide +kernel
theorem dX7_laySteps_102 : decode cX7_laySteps 102 = .ok (.if_icmp .ge 51, 3) := by decide +kernel
theorem dX7_laySteps_105 : decode cX7_laySteps 105 = .ok (.aload_n 0, 1) := by decide +kernel
theorem dX7_laySteps_106 : decode cX7_laySteps 106 = .ok (.getfield 40, 3) := by decide +kernel
theorem dX7_laySteps_109 : decode cX7_laySteps 109 = .ok (.iload 7, 2) := by decide +kernel
theorem dX7_laySteps_111 : decode cX7_laySteps 111 = .ok (.iload 6, 2) := by decide +kernel
theorem dX7_laySteps_113 : decode cX7_laySteps 113 = .ok (.iload 7, 2) := by decide +kernel
theorem dX7_laySteps_115 : decode cX7_laySteps 115 = .ok (.invokestatic 165, 3) := by decide +kernel
theorem dX7_laySteps_118 : decode cX7_laySteps 118 = .ok (.ifCond .eq 21, 3) := by decide +kernel
theorem dX7_laySteps_121 : decode cX7_laySteps 121 = .ok (.aload_n 0, 1) := by decide +kernel
theorem dX7_laySteps_122 : decode cX7_laySteps 122 = .ok (.getfield 40, 3) := by decide +kernel
theorem dX7_laySteps_125 : decode cX7_laySteps 125 = .ok (.iload 7, 2) := by decide +kernel
theorem dX7_laySteps_127 : decode cX7_laySteps 127 = .ok (.iaload, 1) := by decide +kernel
theorem dX7_laySteps_128 : decode cX7_laySteps 128 = .ok (.iconst (-1), 1) := by decide +kernel
theorem dX7_laySteps_129 : decode cX7_laySteps 129 = .ok (.if_icmp .ne 10, 3) := by decide +kernel
theorem dX7_laySteps_132 : decode cX7_laySteps 132 = .ok (.iload 4, 2) := by decide +kernel
theorem dX7_laySteps_134 : decode cX7_laySteps 134 = .ok (.iconst 1, 1) := by decide +kernel
theorem dX7_laySteps_135 : decode cX7_laySteps 135 = .ok (.iadd, 1) := by decide +kernel
theorem dX7_laySteps_136 : decode cX7_laySteps 136 = .ok (.goto 10, 3) := by decide +kernel
theorem dX7_laySteps_139 : decode cX7_laySteps 139 = .ok (.aload_n 0, 1) := by decide +kernel
theorem dX7_laySteps_140 : decode cX7_laySteps 140 = .ok (.getfield 40, 3) := by decide +kernel
theorem dX7_laySteps_143 : decode cX7_laySteps 143 = .ok (.iload 7, 2) := by decide +kernel
theorem dX7_laySteps_145 : decode cX7_laySteps 145 = .ok (.iaload, 1) := by decide +kernel
theorem dX7_laySteps_146 : decode cX7_laySteps 146 = .ok (.iastore, 1) := by decide +kernel
theorem dX7_laySteps_147 : decode cX7_laySteps 147 = .ok (.iinc 7 1, 3) := by decide +kernel
theorem dX7_laySteps_150 : decode cX7_laySteps 150 = .ok (.goto (-51), 3) := by decide +kernel
theorem dX7_laySteps_153 : decode cX7_laySteps 153 = .ok (.iinc 5 1, 3) := by decide +kernel
theorem dX7_laySteps_156 : decode cX7_laySteps 156 = .ok (.goto (-91), 3) := by decide +kernel
theorem dX7_laySteps_159 : decode cX7_laySteps 159 = .ok (.iinc 4 1, 3) := by decide +kernel
theorem dX7_laySteps_162 : decode cX7_laySteps 162 = .ok (.goto (-106), 3) := by decide +kernel
theorem dX7_laySteps_165 : decode cX7_laySteps 165 = .ok (.return_, 1) := by decide +kernel
theorem dX7_neighbours_0 : decode cX7_neighbours 0 = .ok (.aload_n 0, 1) := by decide +kernel
theorem dX7_neighbours_1 : decode cX7_neighbours 1 = .ok (.iconst 0, 1) := by decide +kernel
theorem dX7_neighbours_2 : decode cX7_neighbours 2 = .ok (.putfield 52, 3) := by decide +kernel
theorem dX7_neighbours_5 : decode cX7_neighbours 5 = .ok (.aload_n 0, 1) := by decide +kernel
theorem dX7_neighbours_6 : decode cX7_neighbours 6 = .ok (.aload_n 0, 1) := by decide +kernel
theorem dX7_neighbours_7 : decode cX7_neighbours 7 = .ok (.iload_n 1, 1) := by decide +kernel
theorem dX7_neighbours_8 : decode cX7_neighbours 8 = .ok (.iload_n 2, 1) := by decide +kernel
theorem dX7_neighbours_9 : decode cX7_neighbours 9 = .ok (.invokevirtual 293, 3) := by decide +kernel
theorem dX7_neighbours_12 : decode cX7_neighbours 12 = .ok (.iconst 1, 1) := by decide +kernel
theorem dX7_neighbours_13 : decode cX7_neighbours 13 = .ok (.invokevirtual 63, 3) := by decide +kernel
theorem dX7_neighbours_16 : decode cX7_neighbours 16 = .ok (.ifCond .eq 7, 3) := by decide +kernel
theorem dX7_neighbours_19 : decode cX7_neighbours 19 = .ok (.iconst 0, 1) := by decide +kernel
theorem dX7_neighbours_20 : decode cX7_neighbours 20 = .ok (.goto 9, 3) := by decide +kernel
theorem dX7_neighbours_23 : decode cX7_neighbours 23 = .ok (.aload_n 0, 1) := by decide +kernel
theorem dX7_neighbours_24 : decode cX7_neighbours 24 = .ok (.iload_n 1, 1) := by decide +kernel
theorem dX7_neighbours_25 : decode cX7_neighbours 25 = .ok (.iload_n 2, 1) := by decide +kernel
theorem dX7_neighbours_26 : decode cX7_neighbours 26 = .ok (.invokevirtual 290, 3) := by decide +kernel
theorem dX7_neighbours_29 : decode cX7_neighbours 29 = .ok (.ireturn, 1) := by decide +kernel
theorem dX7_distance_0 : decode cX7_distance 0 = .ok (.aload_n 0, 1) := by decide +kernel
theorem dX7_distance_1 : decode cX7_distance 1 = .ok (.iconst 0, 1) := by decide +kernel
theorem dX7_distance_2 : decode cX7_distance 2 = .ok (.putfield 52, 3) := by decide +kernel
theorem dX7_distance_5 : decode cX7_distance 5 = .ok (.aload_n 0, 1) := by decide +kernel
theorem dX7_distance_6 : decode cX7_distance 6 = .ok (.aload_n 0, 1) := by decide +kernel
theorem dX7_distance_7 : decode cX7_distance 7 = .ok (.iload_n 1, 1) := by decide +kernel
theorem dX7_distance_8 : decode cX7_distance 8 = .ok (.iload_n 3, 1) := by decide +kernel
theorem dX7_distance_9 : decode cX7_distance 9 = .ok (.invokevirtual 293, 3) := by decide +kernel
theorem dX7_distance_12 : decode cX7_distance 12 = .ok (.ifCond .eq 16, 3) := by decide +kernel
theorem dX7_distance_15 : decode cX7_distance 15 = .ok (.aload_n 0, 1) := by decide +kernel
theorem dX7_distance_16 : decode cX7_distance 16 = .ok (.iload_n 2, 1) := by decide +kernel
theorem dX7_distance_17 : decode cX7_distance 17 = .ok (.iload_n 3, 1) := by decide +kernel
theorem dX7_distance_18 : decode cX7_distance 18 = .ok (.invokevirtual 293, 3) := by decide +kernel
theorem dX7_distance_21 : decode cX7_distance 21 = .ok (.ifCond .eq 7, 3) := by decide +kernel
theorem dX7_distance_24 : decode cX7_distance 24 = .ok (.iconst 1, 1) := by decide +kernel
theorem dX7_distance_25 : decode cX7_distance 25 = .ok (.goto 4, 3) := by decide +kernel
theorem dX7_distance_28 : decode cX7_distance 28 = .ok (.iconst 0, 1) := by decide +kernel
theorem dX7_distance_29 : decode cX7_distance 29 = .ok (.iconst 1, 1) := by decide +kernel
theorem dX7_distance_30 : decode cX7_distance 30 = .ok (.invokevirtual 63, 3) := by decide +kernel
theorem dX7_distance_33 : decode cX7_distance 33 = .ok (.ifCond .eq 5, 3) := by decide +kernel
theorem dX7_distance_36 : decode cX7_distance 36 = .ok (.iconst 0, 1) := by decide +kernel
theorem dX7_distance_37 : decode cX7_distance 37 = .ok (.ireturn, 1) := by decide +kernel
theorem dX7_distance_38 : decode cX7_distance 38 = .ok (.aload_n 0, 1) := by decide +kernel
theorem dX7_distance_39 : decode cX7_distance 39 = .ok (.iload_n 1, 1) := by decide +kernel
theorem dX7_distance_40 : decode cX7_distance 40 = .ok (.iload_n 3, 1) := by decide +kernel
theorem dX7_distance_41 : decode cX7_distance 41 = .ok (.invokevirtual 297, 3) := by decide +kernel
theorem dX7_distance_44 : decode cX7_distance 44 = .ok (.aload_n 0, 1) := by decide +kernel
theorem dX7_distance_45 : decode cX7_distance 45 = .ok (.getfield 40, 3) := by decide +kernel
theorem dX7_distance_48 : decode cX7_distance 48 = .ok (.iload_n 2, 1) := by decide +kernel
theorem dX7_distance_49 : decode cX7_distance 49 = .ok (.iaload, 1) := by decide +kernel
theorem dX7_distance_50 : decode cX7_distance 50 = .ok (.ireturn, 1) := by decide +kernel
theorem dX7_step__0 : decode cX7_step_ 0 = .ok (.aload_n 0, 1) := by decide +kernel
theorem dX7_step__1 : decode cX7_step_ 1 = .ok (.iconst 0, 1) := by decide +kernel
theorem dX7_step__2 : decode cX7_step_ 2 = .ok (.putfield 52, 3) := by decide +kernel
theorem dX7_step__5 : decode cX7_step_ 5 = .ok (.aload_n 0, 1) := by decide +kernel
theorem dX7_step__6 : decode cX7_step_ 6 = .ok (.aload_n 0, 1) := by decide +kernel
theorem dX7_step__7 : decode cX7_step_ 7 = .ok (.iload_n 1, 1) := by decide +kernel
theorem dX7_step__8 : decode cX7_step_ 8 = .ok (.iload_n 3, 1) := by decide +kernel
theorem dX7_step__9 : decode cX7_step_ 9 = .ok (.invokevirtual 293, 3) := by decide +kernel
theorem dX7_step__12 : decode cX7_step_ 12 = .ok (.ifCond .eq 16, 3) := by decide +kernel
theorem dX7_step__15 : decode cX7_step_ 15 = .ok (.aload_n 0, 1) := by decide +kernel
theorem dX7_step__16 : decode cX7_step_ 16 = .ok (.iload_n 2, 1) := by decide +kernel
theorem dX7_step__17 : decode cX7_step_ 17 = .ok (.iload_n 3, 1) := by decide +kernel
theorem dX7_step__18 : decode cX7_step_ 18 = .ok (.invokevirtual 293, 3) := by decide +kernel
theorem dX7_step__21 : decode cX7_step_ 21 = .ok (.ifCond .eq 7, 3) := by decide +kernel
theorem dX7_step__24 : decode cX7_step_ 24 = .ok (.iconst 1, 1) := by decide +kernel
theorem dX7_step__25 : decode cX7_step_ 25 = .ok (.goto 4, 3) := by decide +kernel
theorem dX7_step__28 : decode cX7_step_ 28 = .ok (.iconst 0, 1) := by decide +kernel
theorem dX7_step__29 : decode cX7_step_ 29 = .ok (.iconst 1, 1) := by decide +kernel
theorem dX7_step__30 : decode cX7_step_ 30 = .ok (.invokevirtual 63, 3) := by decide +kernel
theorem dX7_step__33 : decode cX7_step_ 33 = .ok (.ifCond .eq 5, 3) := by decide +kernel
theorem dX7_step__36 : decode cX7_step_ 36 = .ok (.iconst 0, 1) := by decide +kernel
theorem dX7_step__37 : decode cX7_step_ 37 = .ok (.ireturn, 1) := by decide +kernel
theorem dX7_step__38 : decode cX7_step_ 38 = .ok (.aload_n 0, 1) := by decide +kernel
theorem dX7_step__39 : decode cX7_step_ 39 = .ok (.iload_n 2, 1) := by decide +kernel
theorem dX7_step__40 : decode cX7_step_ 40 = .ok (.iload_n 3, 1) := by decide +kernel
theorem dX7_step__41 : decode cX7_step_ 41 = .ok (.invokevirtual 297, 3) := by decide +kernel
theorem dX7_step__44 : decode cX7_step_ 44 = .ok (.aload_n 0, 1) := by decide +kernel
theorem dX7_step__45 : decode cX7_step_ 45 = .ok (.aload_n 0, 1) := by decide +kernel
theorem dX7_step__46 : decode cX7_step_ 46 = .ok (.getfield 40, 3) := by decide +kernel
theorem dX7_step__49 : decode cX7_step_ 49 = .ok (.iload_n 1, 1) := by decide +kernel
theorem dX7_step__50 : decode cX7_step_ 50 = .ok (.iaload, 1) := by decide +kernel
theorem dX7_step__51 : decode cX7_step_ 51 = .ok (.ifCond .le 7, 3) := by decide +kernel
theorem dX7_step__54 : decode cX7_step_ 54 = .ok (.iconst 1, 1) := by decide +kernel
theorem dX7_step__55 : decode cX7_step_ 55 = .ok (.goto 4, 3) := by decide +kernel
theorem dX7_step__58 : decode cX7_step_ 58 = .ok (.iconst 0, 1) := by decide +kernel
theorem dX7_step__59 : decode cX7_step_ 59 = .ok (.iconst 2, 1) := by decide +kernel
theorem dX7_step__60 : decode cX7_step_ 60 = .ok (.invokevirtual 63, 3) := by decide +kernel
theorem dX7_step__63 : decode cX7_step_ 63 = .ok (.ifCond .eq 5, 3) := by decide +kernel
theorem dX7_step__66 : decode cX7_step_ 66 = .ok (.iconst 0, 1) := by decide +kernel
theorem dX7_step__67 : decode cX7_step_ 67 = .ok (.ireturn, 1) := by decide +kernel
theorem dX7_step__68 : decode cX7_step_ 68 = .ok (.aload_n 0, 1) := by decide +kernel
theorem dX7_step__69 : decode cX7_step_ 69 = .ok (.iload_n 1, 1) := by decide +kernel
theorem dX7_step__70 : decode cX7_step_ 70 = .ok (.iload_n 3, 1) := by decide +kernel
theorem dX7_step__71 : decode cX7_step_ 71 = .ok (.invokevirtual 290, 3) := by decide +kernel
theorem dX7_step__74 : decode cX7_step_ 74 = .ok (.istore 4, 2) := by decide +kernel
theorem dX7_step__76 : decode cX7_step_ 76 = .ok (.iconst 0, 1) := by decide +kernel
theorem dX7_step__77 : decode cX7_step_ 77 = .ok (.istore 5, 2) := by decide +kernel
theorem dX7_step__79 : decode cX7_step_ 79 = .ok (.iload 4, 2) := by decide +kernel
theorem dX7_step__81 : decode cX7_step_ 81 = .ok (.iload 5, 2) := by decide +kernel
theorem dX7_step__83 : decode cX7_step_ 83 = .ok (.invokestatic 165, 3) := by decide +kernel
theorem dX7_step__86 : decode cX7_step_ 86 = .ok (.ifCond .eq 21, 3) := by decide +kernel
theorem dX7_step__89 : decode cX7_step_ 89 = .ok (.aload_n 0, 1) := by decide +kernel
theorem dX7_step__90 : decode cX7_step_ 90 = .ok (.getfield 40, 3) := by decide +kernel
theorem dX7_step__93 : decode cX7_step_ 93 = .ok (.iload 5, 2) := by decide +kernel
theorem dX7_step__95 : decode cX7_step_ 95 = .ok (.iaload, 1) := by decide +kernel
theorem dX7_step__96 : decode cX7_step_ 96 = .ok (.aload_n 0, 1) := by decide +kernel
theorem dX7_step__97 : decode cX7_step_ 97 = .ok (.getfield 40, 3) := by decide +kernel
theorem dX7_step__100 : decode cX7_step_ 100 = .ok (.iload_n 1, 1) := by decide +kernel
theorem dX7_step__101 : decode cX7_step_ 101 = .ok (.iaload, 1) := by decide +kernel
theorem dX7_step__102 : decode cX7_step_ 102 = .ok (.iconst 1, 1) := by decide +kernel
theorem dX7_step__103 : decode cX7_step_ 103 = .ok (.isub, 1) := by decide +kernel
theorem dX7_step__104 : decode cX7_step_ 104 = .ok (.if_icmp .eq 9, 3) := by decide +kernel
theorem dX7_step__107 : decode cX7_step_ 107 = .ok (.iinc 5 1, 3) := by decide +kernel
theorem dX7_step__110 : decode cX7_step_ 110 = .ok (.goto (-31), 3) := by decide +kernel
theorem dX7_step__113 : decode cX7_step_ 113 = .ok (.iload 5, 2) := by decide +kernel
theorem dX7_step__115 : decode cX7_step_ 115 = .ok (.ireturn, 1) := by decide +kernel
theorem dX7_diameter_0 : decode cX7_diameter 0 = .ok (.aload_n 0, 1) := by decide +kernel
theorem dX7_diameter_1 : decode cX7_diameter 1 = .ok (.iconst 0, 1) := by decide +kernel
theorem dX7_diameter_2 : decode cX7_diameter 2 = .ok (.putfield 52, 3) := by decide +kernel
theorem dX7_diameter_5 : decode cX7_diameter 5 = .ok (.iload_n 1, 1) := by decide +kernel
theorem dX7_diameter_6 : decode cX7_diameter 6 = .ok (.ifCond .eq 12, 3) := by decide +kernel
theorem dX7_diameter_9 : decode cX7_diameter 9 = .ok (.aload_n 0, 1) := by decide +kernel
theorem dX7_diameter_10 : decode cX7_diameter 10 = .ok (.getfield 13, 3) := by decide +kernel
theorem dX7_diameter_13 : decode cX7_diameter 13 = .ok (.iconst 1, 1) := by decide +kernel
theorem dX7_diameter_14 : decode cX7_diameter 14 = .ok (.iaload, 1) := by decide +kernel
theorem dX7_diameter_15 : decode cX7_diameter 15 = .ok (.goto 9, 3) := by decide +kernel
theorem dX7_diameter_18 : decode cX7_diameter 18 = .ok (.aload_n 0, 1) := by decide +kernel
theorem dX7_diameter_19 : decode cX7_diameter 19 = .ok (.getfield 13, 3) := by decide +kernel
theorem dX7_diameter_22 : decode cX7_diameter 22 = .ok (.iconst 0, 1) := by decide +kernel
theorem dX7_diameter_23 : decode cX7_diameter 23 = .ok (.iaload, 1) := by decide +kernel
theorem dX7_diameter_24 : decode cX7_diameter 24 = .ok (.istore_n 2, 1) := by decide +kernel
theorem dX7_diameter_25 : decode cX7_diameter 25 = .ok (.iconst 0, 1) := by decide +kernel
theorem dX7_diameter_26 : decode cX7_diameter 26 = .ok (.istore_n 3, 1) := by decide +kernel
theorem dX7_diameter_27 : decode cX7_diameter 27 = .ok (.iload_n 2, 1) := by decide +kernel
theorem dX7_diameter_28 : decode cX7_diameter 28 = .ok (.ifCond .le 7, 3) := by decide +kernel
theorem dX7_diameter_31 : decode cX7_diameter 31 = .ok (.iconst 1, 1) := by decide +kernel
theorem dX7_diameter_32 : decode cX7_diameter 32 = .ok (.goto 4, 3) := by decide +kernel
theorem dX7_diameter_35 : decode cX7_diameter 35 = .ok (.iconst 0, 1) := by decide +kernel
theorem dX7_diameter_36 : decode cX7_diameter 36 = .ok (.istore 4, 2) := by decide +kernel
theorem dX7_diameter_38 : decode cX7_diameter 38 = .ok (.iconst 0, 1) := by decide +kernel
theorem dX7_diameter_39 : decode cX7_diameter 39 = .ok (.istore 5, 2) := by decide +kernel
theorem dX7_diameter_41 : decode cX7_diameter 41 = .ok (.iload 5, 2) := by decide +kernel
theorem dX7_diameter_43 : decode cX7_diameter 43 = .ok (.iload_n 2, 1) := by decide +kernel
theorem dX7_diameter_44 : decode cX7_diameter 44 = .ok (.if_icmp .ge 66, 3) := by decide +kernel
theorem dX7_diameter_47 : decode cX7_diameter 47 = .ok (.aload_n 0, 1) := by decide +kernel
theorem dX7_diameter_48 : decode cX7_diameter 48 = .ok (.iload 5, 2) := by decide +kernel
theorem dX7_diameter_50 : decode cX7_diameter 50 = .ok (.iload_n 1, 1) := by decide +kernel
theorem dX7_diameter_51 : decode cX7_diameter 51 = .ok (.invokevirtual 297, 3) := by decide +kernel
theorem dX7_diameter_54 : decode cX7_diameter 54 = .ok (.iconst 0, 1) := by decide +kernel
theorem dX7_diameter_55 : decode cX7_diameter 55 = .ok (.istore 6, 2) := by decide +kernel
theorem dX7_diameter_57 : decode cX7_diameter 57 = .ok (.iload 6, 2) := by decide +kernel
theorem dX7_diameter_59 : decode cX7_diameter 59 = .ok (.iload_n 2, 1) := by decide +kernel
theorem dX7_diameter_60 : decode cX7_diameter 60 = .ok (.if_icmp .ge 44, 3) := by decide +kernel
theorem dX7_diameter_63 : decode cX7_diameter 63 = .ok (.iload 4, 2) := by decide +kernel
theorem dX7_diameter_65 : decode cX7_diameter 65 = .ok (.ifCond .eq 18, 3) := by decide +kernel
theorem dX7_diameter_68 : decode cX7_diameter 68 = .ok (.aload_n 0, 1) := by decide +kernel
theorem dX7_diameter_69 : decode cX7_diameter 69 = .ok (.getfield 40, 3) := by decide +kernel
theorem dX7_diameter_72 : decode cX7_diameter 72 = .ok (.iload 6, 2) := by decide +kernel
theorem dX7_diameter_74 : decode cX7_diameter 74 = .ok (.iaload, 1) := by decide +kernel
theorem dX7_diameter_75 : decode cX7_diameter 75 = .ok (.iconst (-1), 1) := by decide +kernel
theorem dX7_diameter_76 : decode cX7_diameter 76 = .ok (.if_icmp .eq 7, 3) := by decide +kernel
theorem dX7_diameter_79 : decode cX7_diameter 79 = .ok (.iconst 1, 1) := by decide +kernel
theorem dX7_diameter_80 : decode cX7_diameter 80 = .ok (.goto 4, 3) := by decide +kernel
theorem dX7_diameter_83 : decode cX7_diameter 83 = .ok (.iconst 0, 1) := by decide +kernel
theorem dX7_diameter_84 : decode cX7_diameter 84 = .ok (.istore 4, 2) := by decide +kernel
theorem dX7_diameter_86 : decode cX7_diameter 86 = .ok (.iload_n 3, 1) := by decide +kernel
theorem dX7_diameter_87 : decode cX7_diameter 87 = .ok (.aload_n 0, 1) := by decide +kernel
theorem dX7_diameter_88 : decode cX7_diameter 88 = .ok (.getfield 40, 3) := by decide +kernel
theorem dX7_diameter_91 : decode cX7_diameter 91 = .ok (.iload 6, 2) := by decide +kernel
theorem dX7_diameter_93 : decode cX7_diameter 93 = .ok (.iaload, 1) := by decide +kernel
theorem dX7_diameter_94 : decode cX7_diameter 94 = .ok (.invokestatic 205, 3) := by decide +kernel
theorem dX7_diameter_97 : decode cX7_diameter 97 = .ok (.istore_n 3, 1) := by decide +kernel
theorem dX7_diameter_98 : decode cX7_diameter 98 = .ok (.iinc 6 1, 3) := by decide +kernel
theorem dX7_diameter_101 : decode cX7_diameter 101 = .ok (.goto (-44), 3) := by decide +kernel
theorem dX7_diameter_104 : decode cX7_diameter 104 = .ok (.iinc 5 1, 3) := by decide +kernel
theorem dX7_diameter_107 : decode cX7_diameter 107 = .ok (.goto (-66), 3) := by decide +kernel
theorem dX7_diameter_110 : decode cX7_diameter 110 = .ok (.aload_n 0, 1) := by decide +kernel
theorem dX7_diameter_111 : decode cX7_diameter 111 = .ok (.iload 4, 2) := by decide +kernel
theorem dX7_diameter_113 : decode cX7_diameter 113 = .ok (.iconst 1, 1) := by decide +kernel
theorem dX7_diameter_114 : decode cX7_diameter 114 = .ok (.invokevirtual 63, 3) := by decide +kernel
theorem dX7_diameter_117 : decode cX7_diameter 117 = .ok (.ifCond .eq 7, 3) := by decide +kernel
theorem dX7_diameter_120 : decode cX7_diameter 120 = .ok (.iconst 0, 1) := by decide +kernel
theorem dX7_diameter_121 : decode cX7_diameter 121 = .ok (.goto 4, 3) := by decide +kernel
theorem dX7_diameter_124 : decode cX7_diameter 124 = .ok (.iload_n 3, 1) := by decide +kernel
theorem dX7_diameter_125 : decode cX7_diameter 125 = .ok (.ireturn, 1) := by decide +kernel
theorem dX7_mapped_0 : decode cX7_mapped 0 = .ok (.iconst 0, 1) := by decide +kernel
theorem dX7_mapped_1 : decode cX7_mapped 1 = .ok (.istore_n 2, 1) := by decide +kernel
theorem dX7_mapped_2 : decode cX7_mapped 2 = .ok (.iconst 0, 1) := by decide +kernel
theorem dX7_mapped_3 : decode cX7_mapped 3 = .ok (.istore_n 3, 1) := by decide +kernel
theorem dX7_mapped_4 : decode cX7_mapped 4 = .ok (.iload_n 3, 1) := by decide +kernel
theorem dX7_mapped_5 : decode cX7_mapped 5 = .ok (.aload_n 0, 1) := by decide +kernel
theorem dX7_mapped_6 : decode cX7_mapped 6 = .ok (.getfield 13, 3) := by decide +kernel
theorem dX7_mapped_9 : decode cX7_mapped 9 = .ok (.iconst 0, 1) := by decide +kernel
theorem dX7_mapped_10 : decode cX7_mapped 10 = .ok (.iaload, 1) := by decide +kernel
theorem dX7_mapped_11 : decode cX7_mapped 11 = .ok (.if_icmp .ge 32, 3) := by decide +kernel
theorem dX7_mapped_14 : decode cX7_mapped 14 = .ok (.iload_n 2, 1) := by decide +kernel
theorem dX7_mapped_15 : decode cX7_mapped 15 = .ok (.iload_n 1, 1) := by decide +kernel
theorem dX7_mapped_16 : decode cX7_mapped 16 = .ok (.iload_n 3, 1) := by decide +kernel
theorem dX7_mapped_17 : decode cX7_mapped 17 = .ok (.invokestatic 165, 3) := by decide +kernel
theorem dX7_mapped_20 : decode cX7_mapped 20 = .ok (.ifCond .eq 14, 3) := by decide +kernel
theorem dX7_mapped_23 : decode cX7_mapped 23 = .ok (.iconst 1, 1) := by decide +kernel
theorem dX7_mapped_24 : decode cX7_mapped 24 = .ok (.aload_n 0, 1) := by decide +kernel
theorem dX7_mapped_25 : decode cX7_mapped 25 = .ok (.getfield 46, 3) := by decide +kernel
theorem dX7_mapped_28 : decode cX7_mapped 28 = .ok (.iload_n 3, 1) := by decide +kernel
theorem dX7_mapped_29 : decode cX7_mapped 29 = .ok (.iaload, 1) := by decide +kernel
theorem dX7_mapped_30 : decode cX7_mapped 30 = .ok (.ishl, 1) := by decide +kernel
theorem dX7_mapped_31 : decode cX7_mapped 31 = .ok (.goto 4, 3) := by decide +kernel
theorem dX7_mapped_34 : decode cX7_mapped 34 = .ok (.iconst 0, 1) := by decide +kernel
theorem dX7_mapped_35 : decode cX7_mapped 35 = .ok (.ior, 1) := by decide +kernel
theorem dX7_mapped_36 : decode cX7_mapped 36 = .ok (.istore_n 2, 1) := by decide +kernel
theorem dX7_mapped_37 : decode cX7_mapped 37 = .ok (.iinc 3 1, 3) := by decide +kernel
theorem dX7_mapped_40 : decode cX7_mapped 40 = .ok (.goto (-36), 3) := by decide +kernel
theorem dX7_mapped_43 : decode cX7_mapped 43 = .ok (.iload_n 2, 1) := by decide +kernel
theorem dX7_mapped_44 : decode cX7_mapped 44 = .ok (.ireturn, 1) := by decide +kernel
theorem dX7_isMapped_0 : decode cX7_isMapped 0 = .ok (.iconst 0, 1) := by decide +kernel
theorem dX7_isMapped_1 : decode cX7_isMapped 1 = .ok (.istore_n 1, 1) := by decide +kernel
theorem dX7_isMapped_2 : decode cX7_isMapped 2 = .ok (.iconst 0, 1) := by decide +kernel
theorem dX7_isMapped_3 : decode cX7_isMapped 3 = .ok (.istore_n 2, 1) := by decide +kernel
theorem dX7_isMapped_4 : decode cX7_isMapped 4 = .ok (.iload_n 2, 1) := by decide +kernel
theorem dX7_isMapped_5 : decode cX7_isMapped 5 = .ok (.aload_n 0, 1) := by decide +kernel
theorem dX7_isMapped_6 : decode cX7_isMapped 6 = .ok (.getfield 13, 3) := by decide +kernel
theorem dX7_isMapped_9 : decode cX7_isMapped 9 = .ok (.iconst 1, 1) := by decide +kernel
theorem dX7_isMapped_10 : decode cX7_isMapped 10 = .ok (.iaload, 1) := by decide +kernel
theorem dX7_isMapped_11 : decode cX7_isMapped 11 = .ok (.if_icmp .ge 84, 3) := by decide +kernel
theorem dX7_isMapped_14 : decode cX7_isMapped 14 = .ok (.aload_n 0, 1) := by decide +kernel
theorem dX7_isMapped_15 : decode cX7_isMapped 15 = .ok (.aload_n 0, 1) := by decide +kernel
theorem dX7_isMapped_16 : decode cX7_isMapped 16 = .ok (.getfield 13, 3) := by decide +kernel
theorem dX7_isMapped_19 : decode cX7_isMapped 19 = .ok (.iconst 2, 1) := by decide +kernel
theorem dX7_isMapped_20 : decode cX7_isMapped 20 = .ok (.iload_n 2, 1) := by decide +kernel
theorem dX7_isMapped_21 : decode cX7_isMapped 21 = .ok (.iadd, 1) := by decide +kernel
theorem dX7_isMapped_22 : decode cX7_isMapped 22 = .ok (.iaload, 1) := by decide +kernel
theorem dX7_isMapped_23 : decode cX7_isMapped 23 = .ok (.invokevirtual 301, 3) := by decide +kernel
theorem dX7_isMapped_26 : decode cX7_isMapped 26 = .ok (.istore_n 3, 1) := by decide +kernel
theorem dX7_isMapped_27 : decode cX7_isMapped 27 = .ok (.iconst 0, 1) := by decide +kernel
theorem dX7_isMapped_28 : decode cX7_isMapped 28 = .ok (.istore 4, 2) := by decide +kernel
theorem dX7_isMapped_30 : decode cX7_isMapped 30 = .ok (.iload 4, 2) := by decide +kernel
theorem dX7_isMapped_32 : decode cX7_isMapped 32 = .ok (.aload_n 0, 1) := by decide +kernel
theorem dX7_isMapped_33 : decode cX7_isMapped 33 = .ok (.getfield 13, 3) := by decide +kernel
theorem dX7_isMapped_36 : decode cX7_isMapped 36 = .ok (.iconst 1, 1) := by decide +kernel
theorem dX7_isMapped_37 : decode cX7_isMapped 37 = .ok (.iaload, 1) := by decide +kernel
theorem dX7_isMapped_38 : decode cX7_isMapped 38 = .ok (.if_icmp .ge 31, 3) := by decide +kernel
theorem dX7_isMapped_41 : decode cX7_isMapped 41 = .ok (.iload_n 1, 1) := by decide +kernel
theorem dX7_isMapped_42 : decode cX7_isMapped 42 = .ok (.iload 4, 2) := by decide +kernel
theorem dX7_isMapped_44 : decode cX7_isMapped 44 = .ok (.invokestatic 165, 3) := by decide +kernel
theorem dX7_isMapped_47 : decode cX7_isMapped 47 = .ok (.ifCond .ne 16, 3) := by decide +kernel
theorem dX7_isMapped_50 : decode cX7_isMapped 50 = .ok (.aload_n 0, 1) := by decide +kernel
theorem dX7_isMapped_51 : decode cX7_isMapped 51 = .ok (.getfield 43, 3) := by decide +kernel
theorem dX7_isMapped_54 : decode cX7_isMapped 54 = .ok (.iconst 2, 1) := by decide +kernel
theorem dX7_isMapped_55 : decode cX7_isMapped 55 = .ok (.iload 4, 2) := by decide +kernel
theorem dX7_isMapped_57 : decode cX7_isMapped 57 = .ok (.iadd, 1) := by decide +kernel
theorem dX7_isMapped_58 : decode cX7_isMapped 58 = .ok (.iaload, 1) := by decide +kernel
theorem dX7_isMapped_59 : decode cX7_isMapped 59 = .ok (.iload_n 3, 1) := by decide +kernel
theorem dX7_isMapped_60 : decode cX7_isMapped 60 = .ok (.if_icmp .eq 9, 3) := by decide +kernel
theorem dX7_isMapped_63 : decode cX7_isMapped 63 = .ok (.iinc 4 1, 3) := by decide +kernel
theorem dX7_isMapped_66 : decode cX7_isMapped 66 = .ok (.goto (-36), 3) := by decide +kernel
theorem dX7_isMapped_69 : decode cX7_isMapped 69 = .ok (.iload 4, 2) := by decide +kernel
theorem dX7_isMapped_71 : decode cX7_isMapped 71 = .ok (.aload_n 0, 1) := by decide +kernel
theorem dX7_isMapped_72 : decode cX7_isMapped 72 = .ok (.getfield 13, 3) := by decide +kernel
theorem dX7_isMapped_75 : decode cX7_isMapped 75 = .ok (.iconst 1, 1) := by decide +kernel
theorem dX7_isMapped_76 : decode cX7_isMapped 76 = .ok (.iaload, 1) := by decide +kernel
theorem dX7_isMapped_77 : decode cX7_isMapped 77 = .ok (.if_icmp .ne 5, 3) := by decide +kernel
theorem dX7_isMapped_80 : decode cX7_isMapped 80 = .ok (.iconst 0, 1) := by decide +kernel
theorem dX7_isMapped_81 : decode cX7_isMapped 81 = .ok (.ireturn, 1) := by decide +kernel
theorem dX7_isMapped_82 : decode cX7_isMapped 82 = .ok (.iload_n 1, 1) := by decide +kernel
theorem dX7_isMapped_83 : decode cX7_isMapped 83 = .ok (.iconst 1, 1) := by decide +kernel
theorem dX7_isMapped_84 : decode cX7_isMapped 84 = .ok (.iload 4, 2) := by decide +kernel
theorem dX7_isMapped_86 : decode cX7_isMapped 86 = .ok (.ishl, 1) := by decide +kernel
theorem dX7_isMapped_87 : decode cX7_isMapped 87 = .ok (.ior, 1) := by decide +kernel
theorem dX7_isMapped_88 : decode cX7_isMapped 88 = .ok (.istore_n 1, 1) := by decide +kernel
theorem dX7_isMapped_89 : decode cX7_isMapped 89 = .ok (.iinc 2 1, 3) := by decide +kernel
theorem dX7_isMapped_92 : decode cX7_isMapped 92 = .ok (.goto (-88), 3) := by decide +kernel
theorem dX7_isMapped_95 : decode cX7_isMapped 95 = .ok (.iconst 1, 1) := by decide +kernel
theorem dX7_isMapped_96 : decode cX7_isMapped 96 = .ok (.ireturn, 1) := by decide +kernel
theorem dX7_often_0 : decode cX7_often 0 = .ok (.iconst 0, 1) := by decide +kernel
theorem dX7_often_1 : decode cX7_often 1 = .ok (.istore_n 2, 1) := by decide +kernel
theorem dX7_often_2 : decode cX7_often 2 = .ok (.iconst 0, 1) := by decide +kernel
theorem dX7_often_3 : decode cX7_often 3 = .ok (.istore_n 3, 1) := by decide +kernel
theorem dX7_often_4 : decode cX7_often 4 = .ok (.iload_n 3, 1) := by decide +kernel
theorem dX7_often_5 : decode cX7_often 5 = .ok (.aload_n 0, 1) := by decide +kernel
theorem dX7_often_6 : decode cX7_often 6 = .ok (.iconst 1, 1) := by decide +kernel
theorem dX7_often_7 : decode cX7_often 7 = .ok (.iaload, 1) := by decide +kernel
theorem dX7_often_8 : decode cX7_often 8 = .ok (.if_icmp .ge 21, 3) := by decide +kernel
theorem dX7_often_11 : decode cX7_often 11 = .ok (.iload_n 2, 1) := by decide +kernel
theorem dX7_often_12 : decode cX7_often 12 = .ok (.aload_n 0, 1) := by decide +kernel
theorem dX7_often_13 : decode cX7_often 13 = .ok (.iconst 2, 1) := by decide +kernel
theorem dX7_often_14 : decode cX7_often 14 = .ok (.iload_n 3, 1) := by decide +kernel
theorem dX7_often_15 : decode cX7_often 15 = .ok (.iadd, 1) := by decide +kernel
theorem dX7_often_16 : decode cX7_often 16 = .ok (.iaload, 1) := by decide +kernel
theorem dX7_often_17 : decode cX7_often 17 = .ok (.iload_n 1, 1) := by decide +kernel
theorem dX7_often_18 : decode cX7_often 18 = .ok (.ishr, 1) := by decide +kernel
theorem dX7_often_19 : decode cX7_often 19 = .ok (.iconst 1, 1) := by decide +kernel
theorem dX7_often_20 : decode cX7_often 20 = .ok (.iand, 1) := by decide +kernel
theorem dX7_often_21 : decode cX7_often 21 = .ok (.iadd, 1) := by decide +kernel
theorem dX7_often_22 : decode cX7_often 22 = .ok (.istore_n 2, 1) := by decide +kernel
theorem dX7_often_23 : decode cX7_often 23 = .ok (.iinc 3 1, 3) := by decide +kernel
theorem dX7_often_26 : decode cX7_often 26 = .ok (.goto (-22), 3) := by decide +kernel
theorem dX7_often_29 : decode cX7_often 29 = .ok (.iload_n 2, 1) := by decide +kernel
theorem dX7_often_30 : decode cX7_often 30 = .ok (.ireturn, 1) := by decide +kernel
theorem dX7_goThrough_0 : decode cX7_goThrough 0 = .ok (.iload_n 1, 1) := by decide +kernel
theorem dX7_goThrough_1 : decode cX7_goThrough 1 = .ok (.aload_n 0, 1) := by decide +kernel
theorem dX7_goThrough_2 : decode cX7_goThrough 2 = .ok (.getfield 13, 3) := by decide +kernel
theorem dX7_goThrough_5 : decode cX7_goThrough 5 = .ok (.iconst 0, 1) := by decide +kernel
theorem dX7_goThrough_6 : decode cX7_goThrough 6 = .ok (.iaload, 1) := by decide +kernel
theorem dX7_goThrough_7 : decode cX7_goThrough 7 = .ok (.if_icmp .ne 73, 3) := by decide +kernel
theorem dX7_goThrough_10 : decode cX7_goThrough 10 = .ok (.aload_n 0, 1) := by decide +kernel
theorem dX7_goThrough_11 : decode cX7_goThrough 11 = .ok (.invokevirtual 304, 3) := by decide +kernel
theorem dX7_goThrough_14 : decode cX7_goThrough 14 = .ok (.ifCond .eq 65, 3) := by decide +kernel
theorem dX7_goThrough_17 : decode cX7_goThrough 17 = .ok (.aload_n 0, 1) := by decide +kernel
theorem dX7_goThrough_18 : decode cX7_goThrough 18 = .ok (.getfield 307, 3) := by decide +kernel
theorem dX7_goThrough_21 : decode cX7_goThrough 21 = .ok (.ifCond .ne 28, 3) := by decide +kernel
theorem dX7_goThrough_24 : decode cX7_goThrough 24 = .ok (.iconst 0, 1) := by decide +kernel
theorem dX7_goThrough_25 : decode cX7_goThrough 25 = .ok (.istore_n 3, 1) := by decide +kernel
theorem dX7_goThrough_26 : decode cX7_goThrough 26 = .ok (.iload_n 3, 1) := by decide +kernel
theorem dX7_goThrough_27 : decode cX7_goThrough 27 = .ok (.iload_n 1, 1) := by decide +kernel
theorem dX7_goThrough_28 : decode cX7_goThrough 28 = .ok (.if_icmp .ge 21, 3) := by decide +kernel
theorem dX7_goThrough_31 : decode cX7_goThrough 31 = .ok (.aload_n 0, 1) := by decide +kernel
theorem dX7_goThrough_32 : decode cX7_goThrough 32 = .ok (.getfield 49, 3) := by decide +kernel
theorem dX7_goThrough_35 : decode cX7_goThrough 35 = .ok (.iload_n 3, 1) := by decide +kernel
theorem dX7_goThrough_36 : decode cX7_goThrough 36 = .ok (.aload_n 0, 1) := by decide +kernel
theorem dX7_goThrough_37 : decode cX7_goThrough 37 = .ok (.getfield 46, 3) := by decide +kernel
theorem dX7_goThrough_40 : decode cX7_goThrough 40 = .ok (.iload_n 3, 1) := by decide +kernel
theorem dX7_goThrough_41 : decode cX7_goThrough 41 = .ok (.iaload, 1) := by decide +kernel
theorem dX7_goThrough_42 : decode cX7_goThrough 42 = .ok (.iastore, 1) := by decide +kernel
theorem dX7_goThrough_43 : decode cX7_goThrough 43 = .ok (.iinc 3 1, 3) := by decide +kernel
theorem dX7_goThrough_46 : decode cX7_goThrough 46 = .ok (.goto (-20), 3) := by decide +kernel
theorem dX7_goThrough_49 : decode cX7_goThrough 49 = .ok (.aload_n 0, 1) := by decide +kernel
theorem dX7_goThrough_50 : decode cX7_goThrough 50 = .ok (.dup, 1) := by decide +kernel
theorem dX7_goThrough_51 : decode cX7_goThrough 51 = .ok (.getfield 307, 3) := by decide +kernel
theorem dX7_goThrough_54 : decode cX7_goThrough 54 = .ok (.iconst 1, 1) := by decide +kernel
theorem dX7_goThrough_55 : decode cX7_goThrough 55 = .ok (.iadd, 1) := by decide +kernel
theorem dX7_goThrough_56 : decode cX7_goThrough 56 = .ok (.putfield 307, 3) := by decide +kernel
theorem dX7_goThrough_59 : decode cX7_goThrough 59 = .ok (.aload_n 0, 1) := by decide +kernel
theorem dX7_goThrough_60 : decode cX7_goThrough 60 = .ok (.dup, 1) := by decide +kernel
theorem dX7_goThrough_61 : decode cX7_goThrough 61 = .ok (.getfield 310, 3) := by decide +kernel
theorem dX7_goThrough_64 : decode cX7_goThrough 64 = .ok (.iconst 1, 1) := by decide +kernel
theorem dX7_goThrough_65 : decode cX7_goThrough 65 = .ok (.aload_n 0, 1) := by decide +kernel
theorem dX7_goThrough_66 : decode cX7_goThrough 66 = .ok (.getfield 46, 3) := by decide +kernel
theorem dX7_goThrough_69 : decode cX7_goThrough 69 = .ok (.aload_n 0, 1) := by decide +kernel
theorem dX7_goThrough_70 : decode cX7_goThrough 70 = .ok (.getfield 313, 3) := by decide +kernel
theorem dX7_goThrough_73 : decode cX7_goThrough 73 = .ok (.iaload, 1) := by decide +kernel
theorem dX7_goThrough_74 : decode cX7_goThrough 74 = .ok (.ishl, 1) := by decide +kernel
theorem dX7_goThrough_75 : decode cX7_goThrough 75 = .ok (.ior, 1) := by decide +kernel
theorem dX7_goThrough_76 : decode cX7_goThrough 76 = .ok (.putfield 310, 3) := by decide +kernel
theorem dX7_goThrough_79 : decode cX7_goThrough 79 = .ok (.return_, 1) := by decide +kernel
theorem dX7_goThrough_80 : decode cX7_goThrough 80 = .ok (.iconst 0, 1) := by decide +kernel
theorem dX7_goThrough_81 : decode cX7_goThrough 81 = .ok (.istore_n 3, 1) := by decide +kernel
theorem dX7_goThrough_82 : decode cX7_goThrough 82 = .ok (.iload_n 3, 1) := by decide +kernel
theorem dX7_goThrough_83 : decode cX7_goThrough 83 = .ok (.aload_n 0, 1) := by decide +kernel
theorem dX7_goThrough_84 : decode cX7_goThrough 84 = .ok (.getfield 13, 3) := by decide +kernel
theorem dX7_goThrough_87 : decode cX7_goThrough 87 = .ok (.iconst 0, 1) := by decide +kernel
theorem dX7_goThrough_88 : decode cX7_goThrough 88 = .ok (.iaload, 1) := by decide +kernel
theorem dX7_goThrough_89 : decode cX7_goThrough 89 = .ok (.if_icmp .ge 57, 3) := by decide +kernel
theorem dX7_goThrough_92 : decode cX7_goThrough 92 = .ok (.iload_n 2, 1) := by decide +kernel
theorem dX7_goThrough_93 : decode cX7_goThrough 93 = .ok (.iload_n 3, 1) := by decide +kernel
theorem dX7_goThrough_94 : decode cX7_goThrough 94 = .ok (.invokestatic 165, 3) := by decide +kernel
theorem dX7_goThrough_97 : decode cX7_goThrough 97 = .ok (.ifCond .eq 43, 3) := by decide +kernel
theorem dX7_goThrough_100 : decode cX7_goThrough 100 = .ok (.aload_n 0, 1) := by decide +kernel
theorem dX7_goThrough_101 : decode cX7_goThrough 101 = .ok (.getfield 13, 3) := by decide +kernel
theorem dX7_goThrough_104 : decode cX7_goThrough 104 = .ok (.iload_n 1, 1) := by decide +kernel
theorem dX7_goThrough_105 : decode cX7_goThrough 105 = .ok (.invokestatic 316, 3) := by decide +kernel
theorem dX7_goThrough_108 : decode cX7_goThrough 108 = .ok (.aload_n 0, 1) := by decide +kernel
theorem dX7_goThrough_109 : decode cX7_goThrough 109 = .ok (.getfield 43, 3) := by decide +kernel
theorem dX7_goThrough_112 : decode cX7_goThrough 112 = .ok (.iload_n 3, 1) := by decide +kernel
theorem dX7_goThrough_113 : decode cX7_goThrough 113 = .ok (.invokestatic 316, 3) := by decide +kernel
theorem dX7_goThrough_116 : decode cX7_goThrough 116 = .ok (.if_icmp .ne 24, 3) := by decide +kernel
theorem dX7_goThrough_119 : decode cX7_goThrough 119 = .ok (.aload_n 0, 1) := by decide +kernel
theorem dX7_goThrough_120 : decode cX7_goThrough 120 = .ok (.getfield 46, 3) := by decide +kernel
theorem dX7_goThrough_123 : decode cX7_goThrough 123 = .ok (.iload_n 1, 1) := by decide +kernel
theorem dX7_goThrough_124 : decode cX7_goThrough 124 = .ok (.iload_n 3, 1) := by decide +kernel
theorem dX7_goThrough_125 : decode cX7_goThrough 125 = .ok (.iastore, 1) := by decide +kernel
theorem dX7_goThrough_126 : decode cX7_goThrough 126 = .ok (.aload_n 0, 1) := by decide +kernel
theorem dX7_goThrough_127 : decode cX7_goThrough 127 = .ok (.iload_n 1, 1) := by decide +kernel
theorem dX7_goThrough_128 : decode cX7_goThrough 128 = .ok (.iconst 1, 1) := by decide +kernel
theorem dX7_goThrough_129 : decode cX7_goThrough 129 = .ok (.iadd, 1) := by decide +kernel
theorem dX7_goThrough_130 : decode cX7_goThrough 130 = .ok (.iload_n 2, 1) := by decide +kernel
theorem dX7_goThrough_131 : decode cX7_goThrough 131 = .ok (.iconst 1, 1) := by decide +kernel
theorem dX7_goThrough_132 : decode cX7_goThrough 132 = .ok (.iload_n 3, 1) := by decide +kernel
theorem dX7_goThrough_133 : decode cX7_goThrough 133 = .ok (.ishl, 1) := by decide +kernel
theorem dX7_goThrough_134 : decode cX7_goThrough 134 = .ok (.iconst (-1), 1) := by decide +kernel
theorem dX7_goThrough_135 : decode cX7_goThrough 135 = .ok (.ixor, 1) := by decide +kernel
theorem dX7_goThrough_136 : decode cX7_goThrough 136 = .ok (.iand, 1) := by decide +kernel
theorem dX7_goThrough_137 : decode cX7_goThrough 137 = .ok (.invokevirtual 320, 3) := by decide +kernel
theorem dX7_goThrough_140 : decode cX7_goThrough 140 = .ok (.iinc 3 1, 3) := by decide +kernel
theorem dX7_goThrough_143 : decode cX7_goThrough 143 = .ok (.goto (-61), 3) := by decide +kernel
theorem dX7_goThrough_146 : decode cX7_goThrough 146 = .ok (.return_, 1) := by decide +kernel
theorem dX7_isomorphisms_0 : decode cX7_isomorphisms 0 = .ok (.aload_n 0, 1) := by decide +kernel
theorem dX7_isomorphisms_1 : decode cX7_isomorphisms 1 = .ok (.iconst 0, 1) := by decide +kernel
theorem dX7_isomorphisms_2 : decode cX7_isomorphisms 2 = .ok (.putfield 307, 3) := by decide +kernel
theorem dX7_isomorphisms_5 : decode cX7_isomorphisms 5 = .ok (.aload_n 0, 1) := by decide +kernel
theorem dX7_isomorphisms_6 : decode cX7_isomorphisms 6 = .ok (.iconst 0, 1) := by decide +kernel
theorem dX7_isomorphisms_7 : decode cX7_isomorphisms 7 = .ok (.putfield 310, 3) := by decide +kernel
theorem dX7_isomorphisms_10 : decode cX7_isomorphisms 10 = .ok (.aload_n 0, 1) := by decide +kernel
theorem dX7_isomorphisms_11 : decode cX7_isomorphisms 11 = .ok (.iload_n 2, 1) := by decide +kernel
theorem dX7_isomorphisms_12 : decode cX7_isomorphisms 12 = .ok (.putfield 313, 3) := by decide +kernel
theorem dX7_isomorphisms_15 : decode cX7_isomorphisms 15 = .ok (.aload_n 1, 1) := by decide +kernel
theorem dX7_isomorphisms_16 : decode cX7_isomorphisms 16 = .ok (.iconst 0, 1) := by decide +kernel
theorem dX7_isomorphisms_17 : decode cX7_isomorphisms 17 = .ok (.iaload, 1) := by decide +kernel
theorem dX7_isomorphisms_18 : decode cX7_isomorphisms 18 = .ok (.aload_n 0, 1) := by decide +kernel
theorem dX7_isomorphisms_19 : decode cX7_isomorphisms 19 = .ok (.getfield 13, 3) := by decide +kernel
theorem dX7_isomorphisms_22 : decode cX7_isomorphisms 22 = .ok (.iconst 0, 1) := by decide +kernel
theorem dX7_isomorphisms_23 : decode cX7_isomorphisms 23 = .ok (.iaload, 1) := by decide +kernel
theorem dX7_isomorphisms_24 : decode cX7_isomorphisms 24 = .ok (.if_icmp .ne 15, 3) := by decide +kernel
theorem dX7_isomorphisms_27 : decode cX7_isomorphisms 27 = .ok (.aload_n 1, 1) := by decide +kernel
theorem dX7_isomorphisms_28 : decode cX7_isomorphisms 28 = .ok (.iconst 1, 1) := by decide +kernel
theorem dX7_isomorphisms_29 : decode cX7_isomorphisms 29 = .ok (.iaload, 1) := by decide +kernel
theorem dX7_isomorphisms_30 : decode cX7_isomorphisms 30 = .ok (.aload_n 0, 1) := by decide +kernel
theorem dX7_isomorphisms_31 : decode cX7_isomorphisms 31 = .ok (.getfield 13, 3) := by decide +kernel
theorem dX7_isomorphisms_34 : decode cX7_isomorphisms 34 = .ok (.iconst 1, 1) := by decide +kernel
theorem dX7_isomorphisms_35 : decode cX7_isomorphisms 35 = .ok (.iaload, 1) := by decide +kernel
theorem dX7_isomorphisms_36 : decode cX7_isomorphisms 36 = .ok (.if_icmp .eq 5, 3) := by decide +kernel
theorem dX7_isomorphisms_39 : decode cX7_isomorphisms 39 = .ok (.iconst 0, 1) := by decide +kernel
theorem dX7_isomorphisms_40 : decode cX7_isomorphisms 40 = .ok (.ireturn, 1) := by decide +kernel
theorem dX7_isomorphisms_41 : decode cX7_isomorphisms 41 = .ok (.iconst 0, 1) := by decide +kernel
theorem dX7_isomorphisms_42 : decode cX7_isomorphisms 42 = .ok (.istore_n 3, 1) := by decide +kernel
theorem dX7_isomorphisms_43 : decode cX7_isomorphisms 43 = .ok (.iload_n 3, 1) := by decide +kernel
theorem dX7_isomorphisms_44 : decode cX7_isomorphisms 44 = .ok (.bipush 12, 2) := by decide +kernel
theorem dX7_isomorphisms_46 : decode cX7_isomorphisms 46 = .ok (.if_icmp .ge 18, 3) := by decide +kernel
theorem dX7_isomorphisms_49 : decode cX7_isomorphisms 49 = .ok (.aload_n 0, 1) := by decide +kernel
theorem dX7_isomorphisms_50 : decode cX7_isomorphisms 50 = .ok (.getfield 43, 3) := by decide +kernel
theorem dX7_isomorphisms_53 : decode cX7_isomorphisms 53 = .ok (.iload_n 3, 1) := by decide +kernel
theorem dX7_isomorphisms_54 : decode cX7_isomorphisms 54 = .ok (.aload_n 1, 1) := by decide +kernel
theorem dX7_isomorphisms_55 : decode cX7_isomorphisms 55 = .ok (.iload_n 3, 1) := by decide +kernel
theorem dX7_isomorphisms_56 : decode cX7_isomorphisms 56 = .ok (.iaload, 1) := by decide +kernel
theorem dX7_isomorphisms_57 : decode cX7_isomorphisms 57 = .ok (.iastore, 1) := by decide +kernel
theorem dX7_isomorphisms_58 : decode cX7_isomorphisms 58 = .ok (.iinc 3 1, 3) := by decide +kernel
theorem dX7_isomorphisms_61 : decode cX7_isomorphisms 61 = .ok (.goto (-18), 3) := by decide +kernel
theorem dX7_isomorphisms_64 : decode cX7_isomorphisms 64 = .ok (.aload_n 0, 1) := by decide +kernel
theorem dX7_isomorphisms_65 : decode cX7_isomorphisms 65 = .ok (.iconst 0, 1) := by decide +kernel
theorem dX7_isomorphisms_66 : decode cX7_isomorphisms 66 = .ok (.aload_n 0, 1) := by decide +kernel
theorem dX7_isomorphisms_67 : decode cX7_isomorphisms 67 = .ok (.invokevirtual 196, 3) := by decide +kernel
theorem dX7_isomorphisms_70 : decode cX7_isomorphisms 70 = .ok (.invokevirtual 320, 3) := by decide +kernel
theorem dX7_isomorphisms_73 : decode cX7_isomorphisms 73 = .ok (.aload_n 0, 1) := by decide +kernel
theorem dX7_isomorphisms_74 : decode cX7_isomorphisms 74 = .ok (.getfield 307, 3) := by decide +kernel
theorem dX7_isomorphisms_77 : decode cX7_isomorphisms 77 = .ok (.ireturn, 1) := by decide +kernel
theorem dX7_automorphisms_0 : decode cX7_automorphisms 0 = .ok (.aload_n 0, 1) := by decide +kernel
theorem dX7_automorphisms_1 : decode cX7_automorphisms 1 = .ok (.iconst 0, 1) := by decide +kernel
theorem dX7_automorphisms_2 : decode cX7_automorphisms 2 = .ok (.putfield 52, 3) := by decide +kernel
theorem dX7_automorphisms_5 : decode cX7_automorphisms 5 = .ok (.aload_n 0, 1) := by decide +kernel
theorem dX7_automorphisms_6 : decode cX7_automorphisms 6 = .ok (.aload_n 0, 1) := by decide +kernel
theorem dX7_automorphisms_7 : decode cX7_automorphisms 7 = .ok (.getfield 13, 3) := by decide +kernel
theorem dX7_automorphisms_10 : decode cX7_automorphisms 10 = .ok (.iconst 0, 1) := by decide +kernel
theorem dX7_automorphisms_11 : decode cX7_automorphisms 11 = .ok (.invokevirtual 324, 3) := by decide +kernel
theorem dX7_automorphisms_14 : decode cX7_automorphisms 14 = .ok (.ireturn, 1) := by decide +kernel
theorem dX7_orbit_0 : decode cX7_orbit 0 = .ok (.aload_n 0, 1) := by decide +kernel
theorem dX7_orbit_1 : decode cX7_orbit 1 = .ok (.iconst 0, 1) := by decide +kernel
theorem dX7_orbit_2 : decode cX7_orbit 2 = .ok (.putfield 52, 3) := by decide +kernel
theorem dX7_orbit_5 : decode cX7_orbit 5 = .ok (.aload_n 0, 1) := by decide +kernel
theorem dX7_orbit_6 : decode cX7_orbit 6 = .ok (.aload_n 0, 1) := by decide +kernel
theorem dX7_orbit_7 : decode cX7_orbit 7 = .ok (.iload_n 1, 1) := by decide +kernel
theorem dX7_orbit_8 : decode cX7_orbit 8 = .ok (.invokevirtual 220, 3) := by decide +kernel
theorem dX7_orbit_11 : decode cX7_orbit 11 = .ok (.iconst 1, 1) := by decide +kernel
theorem dX7_orbit_12 : decode cX7_orbit 12 = .ok (.invokevirtual 63, 3) := by decide +kernel
theorem dX7_orbit_15 : decode cX7_orbit 15 = .ok (.ifCond .eq 5, 3) := by decide +kernel
theorem dX7_orbit_18 : decode cX7_orbit 18 = .ok (.iconst 0, 1) := by decide +kernel
theorem dX7_orbit_19 : decode cX7_orbit 19 = .ok (.ireturn, 1) := by decide +kernel
theorem dX7_orbit_20 : decode cX7_orbit 20 = .ok (.aload_n 0, 1) := by decide +kernel
theorem dX7_orbit_21 : decode cX7_orbit 21 = .ok (.aload_n 0, 1) := by decide +kernel
theorem dX7_orbit_22 : decode cX7_orbit 22 = .ok (.getfield 13, 3) := by decide +kernel
theorem dX7_orbit_25 : decode cX7_orbit 25 = .ok (.iload_n 1, 1) := by decide +kernel
theorem dX7_orbit_26 : decode cX7_orbit 26 = .ok (.invokevirtual 324, 3) := by decide +kernel
theorem dX7_orbit_29 : decode cX7_orbit 29 = .ok (.istore_n 2, 1) := by decide +kernel
theorem dX7_orbit_30 : decode cX7_orbit 30 = .ok (.aload_n 0, 1) := by decide +kernel
theorem dX7_orbit_31 : decode cX7_orbit 31 = .ok (.getfield 310, 3) := by decide +kernel
theorem dX7_orbit_34 : decode cX7_orbit 34 = .ok (.ireturn, 1) := by decide +kernel
theorem dX7_isLike_0 : decode cX7_isLike 0 = .ok (.aload_n 0, 1) := by decide +kernel
theorem dX7_isLike_1 : decode cX7_isLike 1 = .ok (.iconst 0, 1) := by decide +kernel
theorem dX7_isLike_2 : decode cX7_isLike 2 = .ok (.putfield 52, 3) := by decide +kernel
theorem dX7_isLike_5 : decode cX7_isLike 5 = .ok (.aload_n 0, 1) := by decide +kernel
theorem dX7_isLike_6 : decode cX7_isLike 6 = .ok (.aload_n 0, 1) := by decide +kernel
theorem dX7_isLike_7 : decode cX7_isLike 7 = .ok (.getfield 193, 3) := by decide +kernel
theorem dX7_isLike_10 : decode cX7_isLike 10 = .ok (.iconst 1, 1) := by decide +kernel
theorem dX7_isLike_11 : decode cX7_isLike 11 = .ok (.invokevirtual 63, 3) := by decide +kernel
theorem dX7_isLike_14 : decode cX7_isLike 14 = .ok (.ifCond .ne 19, 3) := by decide +kernel
theorem dX7_isLike_17 : decode cX7_isLike 17 = .ok (.aload_n 0, 1) := by decide +kernel
theorem dX7_isLike_18 : decode cX7_isLike 18 = .ok (.aload_n 0, 1) := by decide +kernel
theorem dX7_isLike_19 : decode cX7_isLike 19 = .ok (.getfield 22, 3) := by decide +kernel
theorem dX7_isLike_22 : decode cX7_isLike 22 = .ok (.iconst 0, 1) := by decide +kernel
theorem dX7_isLike_23 : decode cX7_isLike 23 = .ok (.invokevirtual 324, 3) := by decide +kernel
theorem dX7_isLike_26 : decode cX7_isLike 26 = .ok (.ifCond .le 7, 3) := by decide +kernel
theorem dX7_isLike_29 : decode cX7_isLike 29 = .ok (.iconst 1, 1) := by decide +kernel
theorem dX7_isLike_30 : decode cX7_isLike 30 = .ok (.goto 4, 3) := by decide +kernel
theorem dX7_isLike_33 : decode cX7_isLike 33 = .ok (.iconst 0, 1) := by decide +kernel
theorem dX7_isLike_34 : decode cX7_isLike 34 = .ok (.ireturn, 1) := by decide +kernel
theorem dX7_image_0 : decode cX7_image 0 = .ok (.aload_n 0, 1) := by decide +kernel
theorem dX7_image_1 : decode cX7_image 1 = .ok (.iconst 0, 1) := by decide +kernel
theorem dX7_image_2 : decode cX7_image 2 = .ok (.putfield 52, 3) := by decide +kernel
theorem dX7_image_5 : decode cX7_image 5 = .ok (.aload_n 0, 1) := by decide +kernel
theorem dX7_image_6 : decode cX7_image 6 = .ok (.aload_n 0, 1) := by decide +kernel
theorem dX7_image_7 : decode cX7_image 7 = .ok (.iload_n 1, 1) := by decide +kernel
theorem dX7_image_8 : decode cX7_image 8 = .ok (.invokevirtual 220, 3) := by decide +kernel
theorem dX7_image_11 : decode cX7_image 11 = .ok (.iconst 1, 1) := by decide +kernel
theorem dX7_image_12 : decode cX7_image 12 = .ok (.invokevirtual 63, 3) := by decide +kernel
theorem dX7_image_15 : decode cX7_image 15 = .ok (.ifCond .ne 15, 3) := by decide +kernel
theorem dX7_image_18 : decode cX7_image 18 = .ok (.aload_n 0, 1) := by decide +kernel
theorem dX7_image_19 : decode cX7_image 19 = .ok (.aload_n 0, 1) := by decide +kernel
theorem dX7_image_20 : decode cX7_image 20 = .ok (.getfield 193, 3) := by decide +kernel
theorem dX7_image_23 : decode cX7_image 23 = .ok (.iconst 2, 1) := by decide +kernel
theorem dX7_image_24 : decode cX7_image 24 = .ok (.invokevirtual 63, 3) := by decide +kernel
theorem dX7_image_27 : decode cX7_image 27 = .ok (.ifCond .eq 5, 3) := by decide +kernel
theorem dX7_image_30 : decode cX7_image 30 = .ok (.iconst 0, 1) := by decide +kernel
theorem dX7_image_31 : decode cX7_image 31 = .ok (.ireturn, 1) := by decide +kernel
theorem dX7_image_32 : decode cX7_image 32 = .ok (.aload_n 0, 1) := by decide +kernel
theorem dX7_image_33 : decode cX7_image 33 = .ok (.aload_n 0, 1) := by decide +kernel
theorem dX7_image_34 : decode cX7_image 34 = .ok (.aload_n 0, 1) := by decide +kernel
theorem dX7_image_35 : decode cX7_image 35 = .ok (.getfield 22, 3) := by decide +kernel
theorem dX7_image_38 : decode cX7_image 38 = .ok (.iconst 0, 1) := by decide +kernel
theorem dX7_image_39 : decode cX7_image 39 = .ok (.invokevirtual 324, 3) := by decide +kernel
theorem dX7_image_42 : decode cX7_image 42 = .ok (.ifCond .le 7, 3) := by decide +kernel
theorem dX7_image_45 : decode cX7_image 45 = .ok (.iconst 1, 1) := by decide +kernel
theorem dX7_image_46 : decode cX7_image 46 = .ok (.goto 4, 3) := by decide +kernel
theorem dX7_image_49 : decode cX7_image 49 = .ok (.iconst 0, 1) := by decide +kernel
theorem dX7_image_50 : decode cX7_image 50 = .ok (.iconst 3, 1) := by decide +kernel
theorem dX7_image_51 : decode cX7_image 51 = .ok (.invokevirtual 63, 3) := by decide +kernel
theorem dX7_image_54 : decode cX7_image 54 = .ok (.ifCond .eq 7, 3) := by decide +kernel
theorem dX7_image_57 : decode cX7_image 57 = .ok (.iconst 0, 1) := by decide +kernel
theorem dX7_image_58 : decode cX7_image 58 = .ok (.goto 9, 3) := by decide +kernel
theorem dX7_image_61 : decode cX7_image 61 = .ok (.aload_n 0, 1) := by decide +kernel
theorem dX7_image_62 : decode cX7_image 62 = .ok (.getfield 49, 3) := by decide +kernel
theorem dX7_image_65 : decode cX7_image 65 = .ok (.iload_n 1, 1) := by decide +kernel
theorem dX7_image_66 : decode cX7_image 66 = .ok (.iaload, 1) := by decide +kernel
theorem dX7_image_67 : decode cX7_image 67 = .ok (.ireturn, 1) := by decide +kernel
