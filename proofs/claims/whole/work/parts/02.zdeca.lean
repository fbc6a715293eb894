theorem dX0_init_0 : decode cX0_init 0 = .ok (.aload_n 0, 1) := by decide +kernel
theorem dX0_init_1 : decode cX0_init 1 = .ok (.invokespecial 3, 3) := by decide +kernel
theorem dX0_init_4 : decode cX0_init 4 = .ok (.aload_n 0, 1) := by decide +kernel
theorem dX0_init_5 : decode cX0_init 5 = .ok (.sipush 640, 3) := by decide +kernel
theorem dX0_init_8 : decode cX0_init 8 = .ok (.newarray .int, 2) := by decide +kernel
theorem dX0_init_10 : decode cX0_init 10 = .ok (.putfield 11, 3) := by decide +kernel
theorem dX0_init_13 : decode cX0_init 13 = .ok (.aload_n 0, 1) := by decide +kernel
theorem dX0_init_14 : decode cX0_init 14 = .ok (.bipush 11, 2) := by decide +kernel
theorem dX0_init_16 : decode cX0_init 16 = .ok (.newarray .int, 2) := by decide +kernel
theorem dX0_init_18 : decode cX0_init 18 = .ok (.putfield 15, 3) := by decide +kernel
theorem dX0_init_21 : decode cX0_init 21 = .ok (.aload_n 0, 1) := by decide +kernel
theorem dX0_init_22 : decode cX0_init 22 = .ok (.bipush 11, 2) := by decide +kernel
theorem dX0_init_24 : decode cX0_init 24 = .ok (.newarray .int, 2) := by decide +kernel
theorem dX0_init_26 : decode cX0_init 26 = .ok (.putfield 18, 3) := by decide +kernel
theorem dX0_init_29 : decode cX0_init 29 = .ok (.aload_n 0, 1) := by decide +kernel
theorem dX0_init_30 : decode cX0_init 30 = .ok (.bipush 32, 2) := by decide +kernel
theorem dX0_init_32 : decode cX0_init 32 = .ok (.newarray .int, 2) := by decide +kernel
theorem dX0_init_34 : decode cX0_init 34 = .ok (.putfield 21, 3) := by decide +kernel
theorem dX0_init_37 : decode cX0_init 37 = .ok (.aload_n 0, 1) := by decide +kernel
theorem dX0_init_38 : decode cX0_init 38 = .ok (.invokevirtual 24, 3) := by decide +kernel
theorem dX0_init_41 : decode cX0_init 41 = .ok (.return_, 1) := by decide +kernel
theorem dX0_clear_0 : decode cX0_clear 0 = .ok (.aload_n 0, 1) := by decide +kernel
theorem dX0_clear_1 : decode cX0_clear 1 = .ok (.iconst 0, 1) := by decide +kernel
theorem dX0_clear_2 : decode cX0_clear 2 = .ok (.putfield 27, 3) := by decide +kernel
theorem dX0_clear_5 : decode cX0_clear 5 = .ok (.aload_n 0, 1) := by decide +kernel
theorem dX0_clear_6 : decode cX0_clear 6 = .ok (.getfield 11, 3) := by decide +kernel
theorem dX0_clear_9 : decode cX0_clear 9 = .ok (.iconst 0, 1) := by decide +kernel
theorem dX0_clear_10 : decode cX0_clear 10 = .ok (.bipush 50, 2) := by decide +kernel
theorem dX0_clear_12 : decode cX0_clear 12 = .ok (.iastore, 1) := by decide +kernel
theorem dX0_clear_13 : decode cX0_clear 13 = .ok (.aload_n 0, 1) := by decide +kernel
theorem dX0_clear_14 : decode cX0_clear 14 = .ok (.iconst 1, 1) := by decide +kernel
theorem dX0_clear_15 : decode cX0_clear 15 = .ok (.putfield 31, 3) := by decide +kernel
theorem dX0_clear_18 : decode cX0_clear 18 = .ok (.aload_n 0, 1) := by decide +kernel
theorem dX0_clear_19 : decode cX0_clear 19 = .ok (.getfield 15, 3) := by decide +kernel
theorem dX0_clear_22 : decode cX0_clear 22 = .ok (.iconst 0, 1) := by decide +kernel
theorem dX0_clear_23 : decode cX0_clear 23 = .ok (.invokestatic 34, 3) := by decide +kernel
theorem dX0_clear_26 : decode cX0_clear 26 = .ok (.aload_n 0, 1) := by decide +kernel
theorem dX0_clear_27 : decode cX0_clear 27 = .ok (.getfield 18, 3) := by decide +kernel
theorem dX0_clear_30 : decode cX0_clear 30 = .ok (.iconst 1, 1) := by decide +kernel
theorem dX0_clear_31 : decode cX0_clear 31 = .ok (.invokestatic 34, 3) := by decide +kernel
theorem dX0_clear_34 : decode cX0_clear 34 = .ok (.return_, 1) := by decide +kernel
theorem dX0_isTold_0 : decode cX0_isTold 0 = .ok (.iload_n 1, 1) := by decide +kernel
theorem dX0_isTold_1 : decode cX0_isTold 1 = .ok (.ifCond .lt 25, 3) := by decide +kernel
theorem dX0_isTold_4 : decode cX0_isTold 4 = .ok (.iload_n 1, 1) := by decide +kernel
theorem dX0_isTold_5 : decode cX0_isTold 5 = .ok (.aload_n 0, 1) := by decide +kernel
theorem dX0_isTold_6 : decode cX0_isTold 6 = .ok (.getfield 15, 3) := by decide +kernel
theorem dX0_isTold_9 : decode cX0_isTold 9 = .ok (.arraylength, 1) := by decide +kernel
theorem dX0_isTold_10 : decode cX0_isTold 10 = .ok (.if_icmp .ge 16, 3) := by decide +kernel
theorem dX0_isTold_13 : decode cX0_isTold 13 = .ok (.aload_n 0, 1) := by decide +kernel
theorem dX0_isTold_14 : decode cX0_isTold 14 = .ok (.getfield 15, 3) := by decide +kernel
theorem dX0_isTold_17 : decode cX0_isTold 17 = .ok (.iload_n 1, 1) := by decide +kernel
theorem dX0_isTold_18 : decode cX0_isTold 18 = .ok (.iaload, 1) := by decide +kernel
theorem dX0_isTold_19 : decode cX0_isTold 19 = .ok (.ifCond .le 7, 3) := by decide +kernel
theorem dX0_isTold_22 : decode cX0_isTold 22 = .ok (.iconst 1, 1) := by decide +kernel
theorem dX0_isTold_23 : decode cX0_isTold 23 = .ok (.goto 4, 3) := by decide +kernel
theorem dX0_isTold_26 : decode cX0_isTold 26 = .ok (.iconst 0, 1) := by decide +kernel
theorem dX0_isTold_27 : decode cX0_isTold 27 = .ok (.ireturn, 1) := by decide +kernel
theorem dX0_begin_0 : decode cX0_begin 0 = .ok (.iload_n 1, 1) := by decide +kernel
theorem dX0_begin_1 : decode cX0_begin 1 = .ok (.ifCond .lt 22, 3) := by decide +kernel
theorem dX0_begin_4 : decode cX0_begin 4 = .ok (.iload_n 1, 1) := by decide +kernel
theorem dX0_begin_5 : decode cX0_begin 5 = .ok (.aload_n 0, 1) := by decide +kernel
theorem dX0_begin_6 : decode cX0_begin 6 = .ok (.getfield 15, 3) := by decide +kernel
theorem dX0_begin_9 : decode cX0_begin 9 = .ok (.arraylength, 1) := by decide +kernel
theorem dX0_begin_10 : decode cX0_begin 10 = .ok (.if_icmp .ge 13, 3) := by decide +kernel
theorem dX0_begin_13 : decode cX0_begin 13 = .ok (.aload_n 0, 1) := by decide +kernel
theorem dX0_begin_14 : decode cX0_begin 14 = .ok (.getfield 15, 3) := by decide +kernel
theorem dX0_begin_17 : decode cX0_begin 17 = .ok (.iload_n 1, 1) := by decide +kernel
theorem dX0_begin_18 : decode cX0_begin 18 = .ok (.aload_n 0, 1) := by decide +kernel
theorem dX0_begin_19 : decode cX0_begin 19 = .ok (.getfield 31, 3) := by decide +kernel
theorem dX0_begin_22 : decode cX0_begin 22 = .ok (.iastore, 1) := by decide +kernel
theorem dX0_begin_23 : decode cX0_begin 23 = .ok (.return_, 1) := by decide +kernel
theorem dX0_finish_0 : decode cX0_finish 0 = .ok (.iload_n 1, 1) := by decide +kernel
theorem dX0_finish_1 : decode cX0_finish 1 = .ok (.ifCond .lt 22, 3) := by decide +kernel
theorem dX0_finish_4 : decode cX0_finish 4 = .ok (.iload_n 1, 1) := by decide +kernel
theorem dX0_finish_5 : decode cX0_finish 5 = .ok (.aload_n 0, 1) := by decide +kernel
theorem dX0_finish_6 : decode cX0_finish 6 = .ok (.getfield 18, 3) := by decide +kernel
theorem dX0_finish_9 : decode cX0_finish 9 = .ok (.arraylength, 1) := by decide +kernel
theorem dX0_finish_10 : decode cX0_finish 10 = .ok (.if_icmp .ge 13, 3) := by decide +kernel
theorem dX0_finish_13 : decode cX0_finish 13 = .ok (.aload_n 0, 1) := by decide +kernel
theorem dX0_finish_14 : decode cX0_finish 14 = .ok (.getfield 18, 3) := by decide +kernel
theorem dX0_finish_17 : decode cX0_finish 17 = .ok (.iload_n 1, 1) := by decide +kernel
theorem dX0_finish_18 : decode cX0_finish 18 = .ok (.aload_n 0, 1) := by decide +kernel
theorem dX0_finish_19 : decode cX0_finish 19 = .ok (.getfield 31, 3) := by decide +kernel
theorem dX0_finish_22 : decode cX0_finish 22 = .ok (.iastore, 1) := by decide +kernel
theorem dX0_finish_23 : decode cX0_finish 23 = .ok (.return_, 1) := by decide +kernel
theorem dX0_addNumber_0 : decode cX0_addNumber 0 = .ok (.aload_n 0, 1) := by decide +kernel
theorem dX0_addNumber_1 : decode cX0_addNumber 1 = .ok (.iload_n 1, 1) := by decide +kernel
theorem dX0_addNumber_2 : decode cX0_addNumber 2 = .ok (.invokevirtual 40, 3) := by decide +kernel
theorem dX0_addNumber_5 : decode cX0_addNumber 5 = .ok (.return_, 1) := by decide +kernel
theorem dX0_addSeen_0 : decode cX0_addSeen 0 = .ok (.aload_n 0, 1) := by decide +kernel
theorem dX0_addSeen_1 : decode cX0_addSeen 1 = .ok (.sipush 10000, 3) := by decide +kernel
theorem dX0_addSeen_4 : decode cX0_addSeen 4 = .ok (.iload_n 1, 1) := by decide +kernel
theorem dX0_addSeen_5 : decode cX0_addSeen 5 = .ok (.iadd, 1) := by decide +kernel
theorem dX0_addSeen_6 : decode cX0_addSeen 6 = .ok (.invokevirtual 40, 3) := by decide +kernel
theorem dX0_addSeen_9 : decode cX0_addSeen 9 = .ok (.return_, 1) := by decide +kernel
theorem dX0_addOperator_0 : decode cX0_addOperator 0 = .ok (.aload_n 0, 1) := by decide +kernel
theorem dX0_addOperator_1 : decode cX0_addOperator 1 = .ok (.sipush 20000, 3) := by decide +kernel
theorem dX0_addOperator_4 : decode cX0_addOperator 4 = .ok (.iload_n 1, 1) := by decide +kernel
theorem dX0_addOperator_5 : decode cX0_addOperator 5 = .ok (.iadd, 1) := by decide +kernel
theorem dX0_addOperator_6 : decode cX0_addOperator 6 = .ok (.invokevirtual 40, 3) := by decide +kernel
theorem dX0_addOperator_9 : decode cX0_addOperator 9 = .ok (.return_, 1) := by decide +kernel
theorem dX0_add_0 : decode cX0_add 0 = .ok (.aload_n 0, 1) := by decide +kernel
theorem dX0_add_1 : decode cX0_add 1 = .ok (.getfield 31, 3) := by decide +kernel
theorem dX0_add_4 : decode cX0_add 4 = .ok (.sipush 640, 3) := by decide +kernel
theorem dX0_add_7 : decode cX0_add 7 = .ok (.if_icmp .ge 23, 3) := by decide +kernel
theorem dX0_add_10 : decode cX0_add 10 = .ok (.aload_n 0, 1) := by decide +kernel
theorem dX0_add_11 : decode cX0_add 11 = .ok (.getfield 11, 3) := by decide +kernel
theorem dX0_add_14 : decode cX0_add 14 = .ok (.aload_n 0, 1) := by decide +kernel
theorem dX0_add_15 : decode cX0_add 15 = .ok (.getfield 31, 3) := by decide +kernel
theorem dX0_add_18 : decode cX0_add 18 = .ok (.iload_n 1, 1) := by decide +kernel
theorem dX0_add_19 : decode cX0_add 19 = .ok (.iastore, 1) := by decide +kernel
theorem dX0_add_20 : decode cX0_add 20 = .ok (.aload_n 0, 1) := by decide +kernel
theorem dX0_add_21 : decode cX0_add 21 = .ok (.dup, 1) := by decide +kernel
theorem dX0_add_22 : decode cX0_add 22 = .ok (.getfield 31, 3) := by decide +kernel
theorem dX0_add_25 : decode cX0_add 25 = .ok (.iconst 1, 1) := by decide +kernel
theorem dX0_add_26 : decode cX0_add 26 = .ok (.iadd, 1) := by decide +kernel
theorem dX0_add_27 : decode cX0_add 27 = .ok (.putfield 31, 3) := by decide +kernel
theorem dX0_add_30 : decode cX0_add 30 = .ok (.return_, 1) := by decide +kernel
theorem dX0_seenBy_0 : decode cX0_seenBy 0 = .ok (.iload_n 0, 1) := by decide +kernel
theorem dX0_seenBy_1 : decode cX0_seenBy 1 = .ok (.tableswitch 123 2 22 #[120, 123, 103, 105, 123, 123, 123, 123, 123, 99, 101, 123, 123, 123, 114, 111, 123, 123, 107, 109, 117], 99) := by decide +kernel
theorem dX0_seenBy_100 : decode cX0_seenBy 100 = .ok (.iconst 0, 1) := by decide +kernel
theorem dX0_seenBy_101 : decode cX0_seenBy 101 = .ok (.ireturn, 1) := by decide +kernel
theorem dX0_seenBy_102 : decode cX0_seenBy 102 = .ok (.iconst 1, 1) := by decide +kernel
theorem dX0_seenBy_103 : decode cX0_seenBy 103 = .ok (.ireturn, 1) := by decide +kernel
theorem dX0_seenBy_104 : decode cX0_seenBy 104 = .ok (.iconst 2, 1) := by decide +kernel
theorem dX0_seenBy_105 : decode cX0_seenBy 105 = .ok (.ireturn, 1) := by decide +kernel
theorem dX0_seenBy_106 : decode cX0_seenBy 106 = .ok (.iconst 3, 1) := by decide +kernel
theorem dX0_seenBy_107 : decode cX0_seenBy 107 = .ok (.ireturn, 1) := by decide +kernel
theorem dX0_seenBy_108 : decode cX0_seenBy 108 = .ok (.iconst 4, 1) := by decide +kernel
theorem dX0_seenBy_109 : decode cX0_seenBy 109 = .ok (.ireturn, 1) := by decide +kernel
theorem dX0_seenBy_110 : decode cX0_seenBy 110 = .ok (.iconst 5, 1) := by decide +kernel
theorem dX0_seenBy_111 : decode cX0_seenBy 111 = .ok (.ireturn, 1) := by decide +kernel
theorem dX0_seenBy_112 : decode cX0_seenBy 112 = .ok (.bipush 6, 2) := by decide +kernel
theorem dX0_seenBy_114 : decode cX0_seenBy 114 = .ok (.ireturn, 1) := by decide +kernel
theorem dX0_seenBy_115 : decode cX0_seenBy 115 = .ok (.bipush 7, 2) := by decide +kernel
theorem dX0_seenBy_117 : decode cX0_seenBy 117 = .ok (.ireturn, 1) := by decide +kernel
theorem dX0_seenBy_118 : decode cX0_seenBy 118 = .ok (.bipush 8, 2) := by decide +kernel
theorem dX0_seenBy_120 : decode cX0_seenBy 120 = .ok (.ireturn, 1) := by decide +kernel
theorem dX0_seenBy_121 : decode cX0_seenBy 121 = .ok (.bipush 9, 2) := by decide +kernel
theorem dX0_seenBy_123 : decode cX0_seenBy 123 = .ok (.ireturn, 1) := by decide +kernel
theorem dX0_seenBy_124 : decode cX0_seenBy 124 = .ok (.iconst (-1), 1) := by decide +kernel
theorem dX0_seenBy_125 : decode cX0_seenBy 125 = .ok (.ireturn, 1) := by decide +kernel
theorem dX0_value_0 : decode cX0_value 0 = .ok (.iload_n 1, 1) := by decide +kernel
theorem dX0_value_1 : decode cX0_value 1 = .ok (.ifCond .lt 12, 3) := by decide +kernel
theorem dX0_value_4 : decode cX0_value 4 = .ok (.iload_n 1, 1) := by decide +kernel
theorem dX0_value_5 : decode cX0_value 5 = .ok (.aload_n 0, 1) := by decide +kernel
theorem dX0_value_6 : decode cX0_value 6 = .ok (.getfield 15, 3) := by decide +kernel
theorem dX0_value_9 : decode cX0_value 9 = .ok (.arraylength, 1) := by decide +kernel
theorem dX0_value_10 : decode cX0_value 10 = .ok (.if_icmp .lt 5, 3) := by decide +kernel
theorem dX0_value_13 : decode cX0_value 13 = .ok (.iconst 0, 1) := by decide +kernel
theorem dX0_value_14 : decode cX0_value 14 = .ok (.ireturn, 1) := by decide +kernel
theorem dX0_value_15 : decode cX0_value 15 = .ok (.iconst (-1), 1) := by decide +kernel
theorem dX0_value_16 : decode cX0_value 16 = .ok (.istore_n 3, 1) := by decide +kernel
theorem dX0_value_17 : decode cX0_value 17 = .ok (.aload_n 0, 1) := by decide +kernel
theorem dX0_value_18 : decode cX0_value 18 = .ok (.getfield 15, 3) := by decide +kernel
theorem dX0_value_21 : decode cX0_value 21 = .ok (.iload_n 1, 1) := by decide +kernel
theorem dX0_value_22 : decode cX0_value 22 = .ok (.iaload, 1) := by decide +kernel
theorem dX0_value_23 : decode cX0_value 23 = .ok (.istore 4, 2) := by decide +kernel
theorem dX0_value_25 : decode cX0_value 25 = .ok (.iload 4, 2) := by decide +kernel
theorem dX0_value_27 : decode cX0_value 27 = .ok (.aload_n 0, 1) := by decide +kernel
theorem dX0_value_28 : decode cX0_value 28 = .ok (.getfield 18, 3) := by decide +kernel
theorem dX0_value_31 : decode cX0_value 31 = .ok (.iload_n 1, 1) := by decide +kernel
theorem dX0_value_32 : decode cX0_value 32 = .ok (.iaload, 1) := by decide +kernel
theorem dX0_value_33 : decode cX0_value 33 = .ok (.if_icmp .ge 137, 3) := by decide +kernel
theorem dX0_value_36 : decode cX0_value 36 = .ok (.aload_n 0, 1) := by decide +kernel
theorem dX0_value_37 : decode cX0_value 37 = .ok (.getfield 11, 3) := by decide +kernel
theorem dX0_value_40 : decode cX0_value 40 = .ok (.iload 4, 2) := by decide +kernel
theorem dX0_value_42 : decode cX0_value 42 = .ok (.iaload, 1) := by decide +kernel
theorem dX0_value_43 : decode cX0_value 43 = .ok (.istore 5, 2) := by decide +kernel
theorem dX0_value_45 : decode cX0_value 45 = .ok (.iload 5, 2) := by decide +kernel
theorem dX0_value_47 : decode cX0_value 47 = .ok (.sipush 20000, 3) := by decide +kernel
theorem dX0_value_50 : decode cX0_value 50 = .ok (.if_icmp .ge 42, 3) := by decide +kernel
theorem dX0_value_53 : decode cX0_value 53 = .ok (.iload_n 3, 1) := by decide +kernel
theorem dX0_value_54 : decode cX0_value 54 = .ok (.bipush 31, 2) := by decide +kernel
theorem dX0_value_56 : decode cX0_value 56 = .ok (.if_icmp .ge 108, 3) := by decide +kernel
theorem dX0_value_59 : decode cX0_value 59 = .ok (.iinc 3 1, 3) := by decide +kernel
theorem dX0_value_62 : decode cX0_value 62 = .ok (.aload_n 0, 1) := by decide +kernel
theorem dX0_value_63 : decode cX0_value 63 = .ok (.getfield 21, 3) := by decide +kernel
theorem dX0_value_66 : decode cX0_value 66 = .ok (.iload_n 3, 1) := by decide +kernel
theorem dX0_value_67 : decode cX0_value 67 = .ok (.iload 5, 2) := by decide +kernel
theorem dX0_value_69 : decode cX0_value 69 = .ok (.sipush 10000, 3) := by decide +kernel
theorem dX0_value_72 : decode cX0_value 72 = .ok (.if_icmp .ge 8, 3) := by decide +kernel
theorem dX0_value_75 : decode cX0_value 75 = .ok (.iload 5, 2) := by decide +kernel
theorem dX0_value_77 : decode cX0_value 77 = .ok (.goto 11, 3) := by decide +kernel
theorem dX0_value_80 : decode cX0_value 80 = .ok (.aload_n 2, 1) := by decide +kernel
theorem dX0_value_81 : decode cX0_value 81 = .ok (.iload 5, 2) := by decide +kernel
theorem dX0_value_83 : decode cX0_value 83 = .ok (.sipush 10000, 3) := by decide +kernel
theorem dX0_value_86 : decode cX0_value 86 = .ok (.isub, 1) := by decide +kernel
theorem dX0_value_87 : decode cX0_value 87 = .ok (.iaload, 1) := by decide +kernel
theorem dX0_value_88 : decode cX0_value 88 = .ok (.iastore, 1) := by decide +kernel
theorem dX0_value_89 : decode cX0_value 89 = .ok (.goto 75, 3) := by decide +kernel
theorem dX0_value_92 : decode cX0_value 92 = .ok (.iload 5, 2) := by decide +kernel
theorem dX0_value_94 : decode cX0_value 94 = .ok (.sipush 20025, 3) := by decide +kernel
theorem dX0_value_97 : decode cX0_value 97 = .ok (.if_icmp .ne 30, 3) := by decide +kernel
theorem dX0_value_100 : decode cX0_value 100 = .ok (.iload_n 3, 1) := by decide +kernel
theorem dX0_value_101 : decode cX0_value 101 = .ok (.ifCond .lt 63, 3) := by decide +kernel
theorem dX0_value_104 : decode cX0_value 104 = .ok (.aload_n 0, 1) := by decide +kernel
theorem dX0_value_105 : decode cX0_value 105 = .ok (.getfield 21, 3) := by decide +kernel
theorem dX0_value_108 : decode cX0_value 108 = .ok (.iload_n 3, 1) := by decide +kernel
theorem dX0_value_109 : decode cX0_value 109 = .ok (.aload_n 0, 1) := by decide +kernel
theorem dX0_value_110 : decode cX0_value 110 = .ok (.getfield 21, 3) := by decide +kernel
theorem dX0_value_113 : decode cX0_value 113 = .ok (.iload_n 3, 1) := by decide +kernel
theorem dX0_value_114 : decode cX0_value 114 = .ok (.iaload, 1) := by decide +kernel
theorem dX0_value_115 : decode cX0_value 115 = .ok (.ifCond .ne 7, 3) := by decide +kernel
theorem dX0_value_118 : decode cX0_value 118 = .ok (.iconst 1, 1) := by decide +kernel
theorem dX0_value_119 : decode cX0_value 119 = .ok (.goto 4, 3) := by decide +kernel
theorem dX0_value_122 : decode cX0_value 122 = .ok (.iconst 0, 1) := by decide +kernel
theorem dX0_value_123 : decode cX0_value 123 = .ok (.iastore, 1) := by decide +kernel
theorem dX0_value_124 : decode cX0_value 124 = .ok (.goto 40, 3) := by decide +kernel
theorem dX0_value_127 : decode cX0_value 127 = .ok (.iload_n 3, 1) := by decide +kernel
theorem dX0_value_128 : decode cX0_value 128 = .ok (.iconst 1, 1) := by decide +kernel
theorem dX0_value_129 : decode cX0_value 129 = .ok (.if_icmp .lt 35, 3) := by decide +kernel
theorem dX0_value_132 : decode cX0_value 132 = .ok (.iinc 3 (-1), 3) := by decide +kernel
theorem dX0_value_135 : decode cX0_value 135 = .ok (.aload_n 0, 1) := by decide +kernel
theorem dX0_value_136 : decode cX0_value 136 = .ok (.getfield 21, 3) := by decide +kernel
theorem dX0_value_139 : decode cX0_value 139 = .ok (.iload_n 3, 1) := by decide +kernel
theorem dX0_value_140 : decode cX0_value 140 = .ok (.iload 5, 2) := by decide +kernel
theorem dX0_value_142 : decode cX0_value 142 = .ok (.sipush 20000, 3) := by decide +kernel
theorem dX0_value_145 : decode cX0_value 145 = .ok (.isub, 1) := by decide +kernel
theorem dX0_value_146 : decode cX0_value 146 = .ok (.aload_n 0, 1) := by decide +kernel
theorem dX0_value_147 : decode cX0_value 147 = .ok (.getfield 21, 3) := by decide +kernel
theorem dX0_value_150 : decode cX0_value 150 = .ok (.iload_n 3, 1) := by decide +kernel
theorem dX0_value_151 : decode cX0_value 151 = .ok (.iaload, 1) := by decide +kernel
theorem dX0_value_152 : decode cX0_value 152 = .ok (.aload_n 0, 1) := by decide +kernel
theorem dX0_value_153 : decode cX0_value 153 = .ok (.getfield 21, 3) := by decide +kernel
theorem dX0_value_156 : decode cX0_value 156 = .ok (.iload_n 3, 1) := by decide +kernel
theorem dX0_value_157 : decode cX0_value 157 = .ok (.iconst 1, 1) := by decide +kernel
theorem dX0_value_158 : decode cX0_value 158 = .ok (.iadd, 1) := by decide +kernel
theorem dX0_value_159 : decode cX0_value 159 = .ok (.iaload, 1) := by decide +kernel
theorem dX0_value_160 : decode cX0_value 160 = .ok (.invokestatic 46, 3) := by decide +kernel
theorem dX0_value_163 : decode cX0_value 163 = .ok (.iastore, 1) := by decide +kernel
theorem dX0_value_164 : decode cX0_value 164 = .ok (.iinc 4 1, 3) := by decide +kernel
theorem dX0_value_167 : decode cX0_value 167 = .ok (.goto (-142), 3) := by decide +kernel
theorem dX0_value_170 : decode cX0_value 170 = .ok (.iload_n 3, 1) := by decide +kernel
theorem dX0_value_171 : decode cX0_value 171 = .ok (.ifCond .ne 12, 3) := by decide +kernel
theorem dX0_value_174 : decode cX0_value 174 = .ok (.aload_n 0, 1) := by decide +kernel
theorem dX0_value_175 : decode cX0_value 175 = .ok (.getfield 21, 3) := by decide +kernel
theorem dX0_value_178 : decode cX0_value 178 = .ok (.iconst 0, 1) := by decide +kernel
theorem dX0_value_179 : decode cX0_value 179 = .ok (.iaload, 1) := by decide +kernel
theorem dX0_value_180 : decode cX0_value 180 = .ok (.goto 4, 3) := by decide +kernel
theorem dX0_value_183 : decode cX0_value 183 = .ok (.iconst 0, 1) := by decide +kernel
theorem dX0_value_184 : decode cX0_value 184 = .ok (.ireturn, 1) := by decide +kernel
theorem dX0_joined_0 : decode cX0_joined 0 = .ok (.iload_n 0, 1) := by decide +kernel
theorem dX0_joined_1 : decode cX0_joined 1 = .ok (.lookupswitch 166 #[(24, 152), (37, 107), (42, 91), (43, 83), (45, 87), (47, 95), (60, 119), (61, 141), (62, 130)], 83) := by decide +kernel
theorem dX0_joined_84 : decode cX0_joined 84 = .ok (.iload_n 1, 1) := by decide +kernel
theorem dX0_joined_85 : decode cX0_joined 85 = .ok (.iload_n 2, 1) := by decide +kernel
theorem dX0_joined_86 : decode cX0_joined 86 = .ok (.iadd, 1) := by decide +kernel
theorem dX0_joined_87 : decode cX0_joined 87 = .ok (.ireturn, 1) := by decide +kernel
theorem dX0_joined_88 : decode cX0_joined 88 = .ok (.iload_n 1, 1) := by decide +kernel
theorem dX0_joined_89 : decode cX0_joined 89 = .ok (.iload_n 2, 1) := by decide +kernel
theorem dX0_joined_90 : decode cX0_joined 90 = .ok (.isub, 1) := by decide +kernel
theorem dX0_joined_91 : decode cX0_joined 91 = .ok (.ireturn, 1) := by decide +kernel
theorem dX0_joined_92 : decode cX0_joined 92 = .ok (.iload_n 1, 1) := by decide +kernel
theorem dX0_joined_93 : decode cX0_joined 93 = .ok (.iload_n 2, 1) := by decide +kernel
theorem dX0_joined_94 : decode cX0_joined 94 = .ok (.imul, 1) := by decide +kernel
theorem dX0_joined_95 : decode cX0_joined 95 = .ok (.ireturn, 1) := by decide +kernel
theorem dX0_joined_96 : decode cX0_joined 96 = .ok (.iload_n 2, 1) := by decide +kernel
theorem dX0_joined_97 : decode cX0_joined 97 = .ok (.ifCond .ne 7, 3) := by decide +kernel
theorem dX0_joined_100 : decode cX0_joined 100 = .ok (.iconst 0, 1) := by decide +kernel
theorem dX0_joined_101 : decode cX0_joined 101 = .ok (.goto 6, 3) := by decide +kernel
theorem dX0_joined_104 : decode cX0_joined 104 = .ok (.iload_n 1, 1) := by decide +kernel
theorem dX0_joined_105 : decode cX0_joined 105 = .ok (.iload_n 2, 1) := by decide +kernel
theorem dX0_joined_106 : decode cX0_joined 106 = .ok (.idiv, 1) := by decide +kernel
theorem dX0_joined_107 : decode cX0_joined 107 = .ok (.ireturn, 1) := by decide +kernel
theorem dX0_joined_108 : decode cX0_joined 108 = .ok (.iload_n 2, 1) := by decide +kernel
theorem dX0_joined_109 : decode cX0_joined 109 = .ok (.ifCond .ne 7, 3) := by decide +kernel
theorem dX0_joined_112 : decode cX0_joined 112 = .ok (.iconst 0, 1) := by decide +kernel
theorem dX0_joined_113 : decode cX0_joined 113 = .ok (.goto 6, 3) := by decide +kernel
theorem dX0_joined_116 : decode cX0_joined 116 = .ok (.iload_n 1, 1) := by decide +kernel
theorem dX0_joined_117 : decode cX0_joined 117 = .ok (.iload_n 2, 1) := by decide +kernel
theorem dX0_joined_118 : decode cX0_joined 118 = .ok (.irem, 1) := by decide +kernel
theorem dX0_joined_119 : decode cX0_joined 119 = .ok (.ireturn, 1) := by decide +kernel
theorem dX0_joined_120 : decode cX0_joined 120 = .ok (.iload_n 1, 1) := by decide +kernel
theorem dX0_joined_121 : decode cX0_joined 121 = .ok (.iload_n 2, 1) := by decide +kernel
theorem dX0_joined_122 : decode cX0_joined 122 = .ok (.if_icmp .ge 7, 3) := by decide +kernel
theorem dX0_joined_125 : decode cX0_joined 125 = .ok (.iconst 1, 1) := by decide +kernel
theorem dX0_joined_126 : decode cX0_joined 126 = .ok (.goto 4, 3) := by decide +kernel
theorem dX0_joined_129 : decode cX0_joined 129 = .ok (.iconst 0, 1) := by decide +kernel
theorem dX0_joined_130 : decode cX0_joined 130 = .ok (.ireturn, 1) := by decide +kernel
theorem dX0_joined_131 : decode cX0_joined 131 = .ok (.iload_n 1, 1) := by decide +kernel
theorem dX0_joined_132 : decode cX0_joined 132 = .ok (.iload_n 2, 1) := by decide +kernel
theorem dX0_joined_133 : decode cX0_joined 133 = .ok (.if_icmp .le 7, 3) := by decide +kernel
theorem dX0_joined_136 : decode cX0_joined 136 = .ok (.iconst 1, 1) := by decide +kernel
theorem dX0_joined_137 : decode cX0_joined 137 = .ok (.goto 4, 3) := by decide +kernel
theorem dX0_joined_140 : decode cX0_joined 140 = .ok (.iconst 0, 1) := by decide +kernel
theorem dX0_joined_141 : decode cX0_joined 141 = .ok (.ireturn, 1) := by decide +kernel
theorem dX0_joined_142 : decode cX0_joined 142 = .ok (.iload_n 1, 1) := by decide +kernel
theorem dX0_joined_143 : decode cX0_joined 143 = .ok (.iload_n 2, 1) := by decide +kernel
theorem dX0_joined_144 : decode cX0_joined 144 = .ok (.if_icmp .ne 7, 3) := by decide +kernel
theorem dX0_joined_147 : decode cX0_joined 147 = .ok (.iconst 1, 1) := by decide +kernel
theorem dX0_joined_148 : decode cX0_joined 148 = .ok (.goto 4, 3) := by decide +kernel
theorem dX0_joined_151 : decode cX0_joined 151 = .ok (.iconst 0, 1) := by decide +kernel
theorem dX0_joined_152 : decode cX0_joined 152 = .ok (.ireturn, 1) := by decide +kernel
theorem dX0_joined_153 : decode cX0_joined 153 = .ok (.iload_n 1, 1) := by decide +kernel
theorem dX0_joined_154 : decode cX0_joined 154 = .ok (.ifCond .eq 11, 3) := by decide +kernel
theorem dX0_joined_157 : decode cX0_joined 157 = .ok (.iload_n 2, 1) := by decide +kernel
theorem dX0_joined_158 : decode cX0_joined 158 = .ok (.ifCond .eq 7, 3) := by decide +kernel
theorem dX0_joined_161 : decode cX0_joined 161 = .ok (.iconst 1, 1) := by decide +kernel
theorem dX0_joined_162 : decode cX0_joined 162 = .ok (.goto 4, 3) := by decide +kernel
theorem dX0_joined_165 : decode cX0_joined 165 = .ok (.iconst 0, 1) := by decide +kernel
theorem dX0_joined_166 : decode cX0_joined 166 = .ok (.ireturn, 1) := by decide +kernel
theorem dX0_joined_167 : decode cX0_joined 167 = .ok (.iload_n 1, 1) := by decide +kernel
theorem dX0_joined_168 : decode cX0_joined 168 = .ok (.ifCond .ne 7, 3) := by decide +kernel
theorem dX0_joined_171 : decode cX0_joined 171 = .ok (.iload_n 2, 1) := by decide +kernel
theorem dX0_joined_172 : decode cX0_joined 172 = .ok (.ifCond .eq 7, 3) := by decide +kernel
theorem dX0_joined_175 : decode cX0_joined 175 = .ok (.iconst 1, 1) := by decide +kernel
theorem dX0_joined_176 : decode cX0_joined 176 = .ok (.goto 4, 3) := by decide +kernel
theorem dX0_joined_179 : decode cX0_joined 179 = .ok (.iconst 0, 1) := by decide +kernel
theorem dX0_joined_180 : decode cX0_joined 180 = .ok (.ireturn, 1) := by decide +kernel
theorem dX1_init_0 : decode cX1_init 0 = .ok (.aload_n 0, 1) := by decide +kernel
theorem dX1_init_1 : decode cX1_init 1 = .ok (.invokespecial 3, 3) := by decide +kernel
theorem dX1_init_4 : decode cX1_init 4 = .ok (.aload_n 0, 1) := by decide +kernel
theorem dX1_init_5 : decode cX1_init 5 = .ok (.bipush 10, 2) := by decide +kernel
theorem dX1_init_7 : decode cX1_init 7 = .ok (.newarray .int, 2) := by decide +kernel
theorem dX1_init_9 : decode cX1_init 9 = .ok (.putfield 11, 3) := by decide +kernel
theorem dX1_init_12 : decode cX1_init 12 = .ok (.aload_n 0, 1) := by decide +kernel
theorem dX1_init_13 : decode cX1_init 13 = .ok (.aload_n 1, 1) := by decide +kernel
theorem dX1_init_14 : decode cX1_init 14 = .ok (.putfield 17, 3) := by decide +kernel
theorem dX1_init_17 : decode cX1_init 17 = .ok (.return_, 1) := by decide +kernel
theorem dX1_far_0 : decode cX1_far 0 = .ok (.aload_n 1, 1) := by decide +kernel
theorem dX1_far_1 : decode cX1_far 1 = .ok (.getfield 21, 3) := by decide +kernel
theorem dX1_far_4 : decode cX1_far 4 = .ok (.iload_n 3, 1) := by decide +kernel
theorem dX1_far_5 : decode cX1_far 5 = .ok (.iaload, 1) := by decide +kernel
theorem dX1_far_6 : decode cX1_far 6 = .ok (.aload_n 1, 1) := by decide +kernel
theorem dX1_far_7 : decode cX1_far 7 = .ok (.getfield 26, 3) := by decide +kernel
theorem dX1_far_10 : decode cX1_far 10 = .ok (.iload_n 2, 1) := by decide +kernel
theorem dX1_far_11 : decode cX1_far 11 = .ok (.iaload, 1) := by decide +kernel
theorem dX1_far_12 : decode cX1_far 12 = .ok (.isub, 1) := by decide +kernel
theorem dX1_far_13 : decode cX1_far 13 = .ok (.invokestatic 29, 3) := by decide +kernel
theorem dX1_far_16 : decode cX1_far 16 = .ok (.istore 4, 2) := by decide +kernel
theorem dX1_far_18 : decode cX1_far 18 = .ok (.aload_n 1, 1) := by decide +kernel
theorem dX1_far_19 : decode cX1_far 19 = .ok (.getfield 35, 3) := by decide +kernel
theorem dX1_far_22 : decode cX1_far 22 = .ok (.iload_n 3, 1) := by decide +kernel
theorem dX1_far_23 : decode cX1_far 23 = .ok (.iaload, 1) := by decide +kernel
theorem dX1_far_24 : decode cX1_far 24 = .ok (.aload_n 1, 1) := by decide +kernel
theorem dX1_far_25 : decode cX1_far 25 = .ok (.getfield 38, 3) := by decide +kernel
theorem dX1_far_28 : decode cX1_far 28 = .ok (.iload_n 2, 1) := by decide +kernel
theorem dX1_far_29 : decode cX1_far 29 = .ok (.iaload, 1) := by decide +kernel
theorem dX1_far_30 : decode cX1_far 30 = .ok (.isub, 1) := by decide +kernel
theorem dX1_far_31 : decode cX1_far 31 = .ok (.invokestatic 29, 3) := by decide +kernel
theorem dX1_far_34 : decode cX1_far 34 = .ok (.istore 5, 2) := by decide +kernel
theorem dX1_far_36 : decode cX1_far 36 = .ok (.iload 4, 2) := by decide +kernel
theorem dX1_far_38 : decode cX1_far 38 = .ok (.iload 5, 2) := by decide +kernel
theorem dX1_far_40 : decode cX1_far 40 = .ok (.invokestatic 41, 3) := by decide +kernel
theorem dX1_far_43 : decode cX1_far 43 = .ok (.ireturn, 1) := by decide +kernel
theorem dX1_appleIn_0 : decode cX1_appleIn 0 = .ok (.iconst 0, 1) := by decide +kernel
theorem dX1_appleIn_1 : decode cX1_appleIn 1 = .ok (.istore 4, 2) := by decide +kernel
theorem dX1_appleIn_3 : decode cX1_appleIn 3 = .ok (.iload 4, 2) := by decide +kernel
theorem dX1_appleIn_5 : decode cX1_appleIn 5 = .ok (.aload_n 0, 1) := by decide +kernel
theorem dX1_appleIn_6 : decode cX1_appleIn 6 = .ok (.getfield 17, 3) := by decide +kernel
theorem dX1_appleIn_9 : decode cX1_appleIn 9 = .ok (.getfield 45, 3) := by decide +kernel
theorem dX1_appleIn_12 : decode cX1_appleIn 12 = .ok (.if_icmp .ge 45, 3) := by decide +kernel
theorem dX1_appleIn_15 : decode cX1_appleIn 15 = .ok (.aload_n 1, 1) := by decide +kernel
theorem dX1_appleIn_16 : decode cX1_appleIn 16 = .ok (.getfield 51, 3) := by decide +kernel
theorem dX1_appleIn_19 : decode cX1_appleIn 19 = .ok (.iload 4, 2) := by decide +kernel
theorem dX1_appleIn_21 : decode cX1_appleIn 21 = .ok (.iaload, 1) := by decide +kernel
theorem dX1_appleIn_22 : decode cX1_appleIn 22 = .ok (.iconst (-1), 1) := by decide +kernel
theorem dX1_appleIn_23 : decode cX1_appleIn 23 = .ok (.if_icmp .ne 28, 3) := by decide +kernel
theorem dX1_appleIn_26 : decode cX1_appleIn 26 = .ok (.aload_n 1, 1) := by decide +kernel
theorem dX1_appleIn_27 : decode cX1_appleIn 27 = .ok (.getfield 21, 3) := by decide +kernel
theorem dX1_appleIn_30 : decode cX1_appleIn 30 = .ok (.iload 4, 2) := by decide +kernel
theorem dX1_appleIn_32 : decode cX1_appleIn 32 = .ok (.iaload, 1) := by decide +kernel
theorem dX1_appleIn_33 : decode cX1_appleIn 33 = .ok (.iload_n 2, 1) := by decide +kernel
theorem dX1_appleIn_34 : decode cX1_appleIn 34 = .ok (.if_icmp .ne 17, 3) := by decide +kernel
theorem dX1_appleIn_37 : decode cX1_appleIn 37 = .ok (.aload_n 1, 1) := by decide +kernel
theorem dX1_appleIn_38 : decode cX1_appleIn 38 = .ok (.getfield 35, 3) := by decide +kernel
theorem dX1_appleIn_41 : decode cX1_appleIn 41 = .ok (.iload 4, 2) := by decide +kernel
theorem dX1_appleIn_43 : decode cX1_appleIn 43 = .ok (.iaload, 1) := by decide +kernel
theorem dX1_appleIn_44 : decode cX1_appleIn 44 = .ok (.iload_n 3, 1) := by decide +kernel
theorem dX1_appleIn_45 : decode cX1_appleIn 45 = .ok (.if_icmp .ne 6, 3) := by decide +kernel
theorem dX1_appleIn_48 : decode cX1_appleIn 48 = .ok (.iload 4, 2) := by decide +kernel
theorem dX1_appleIn_50 : decode cX1_appleIn 50 = .ok (.ireturn, 1) := by decide +kernel
theorem dX1_appleIn_51 : decode cX1_appleIn 51 = .ok (.iinc 4 1, 3) := by decide +kernel
theorem dX1_appleIn_54 : decode cX1_appleIn 54 = .ok (.goto (-51), 3) := by decide +kernel
theorem dX1_appleIn_57 : decode cX1_appleIn 57 = .ok (.iconst (-1), 1) := by decide +kernel
theorem dX1_appleIn_58 : decode cX1_appleIn 58 = .ok (.ireturn, 1) := by decide +kernel
theorem dX1_aim_0 : decode cX1_aim 0 = .ok (.aload_n 1, 1) := by decide +kernel
theorem dX1_aim_1 : decode cX1_aim 1 = .ok (.getfield 21, 3) := by decide +kernel
theorem dX1_aim_4 : decode cX1_aim 4 = .ok (.iload_n 3, 1) := by decide +kernel
theorem dX1_aim_5 : decode cX1_aim 5 = .ok (.iaload, 1) := by decide +kernel
theorem dX1_aim_6 : decode cX1_aim 6 = .ok (.aload_n 1, 1) := by decide +kernel
theorem dX1_aim_7 : decode cX1_aim 7 = .ok (.getfield 26, 3) := by decide +kernel
theorem dX1_aim_10 : decode cX1_aim 10 = .ok (.iload_n 2, 1) := by decide +kernel
theorem dX1_aim_11 : decode cX1_aim 11 = .ok (.iaload, 1) := by decide +kernel
theorem dX1_aim_12 : decode cX1_aim 12 = .ok (.isub, 1) := by decide +kernel
theorem dX1_aim_13 : decode cX1_aim 13 = .ok (.istore 4, 2) := by decide +kernel
theorem dX1_aim_15 : decode cX1_aim 15 = .ok (.aload_n 1, 1) := by decide +kernel
theorem dX1_aim_16 : decode cX1_aim 16 = .ok (.getfield 35, 3) := by decide +kernel
theorem dX1_aim_19 : decode cX1_aim 19 = .ok (.iload_n 3, 1) := by decide +kernel
theorem dX1_aim_20 : decode cX1_aim 20 = .ok (.iaload, 1) := by decide +kernel
theorem dX1_aim_21 : decode cX1_aim 21 = .ok (.aload_n 1, 1) := by decide +kernel
theorem dX1_aim_22 : decode cX1_aim 22 = .ok (.getfield 38, 3) := by decide +kernel
theorem dX1_aim_25 : decode cX1_aim 25 = .ok (.iload_n 2, 1) := by decide +kernel
theorem dX1_aim_26 : decode cX1_aim 26 = .ok (.iaload, 1) := by decide +kernel
theorem dX1_aim_27 : decode cX1_aim 27 = .ok (.isub, 1) := by decide +kernel
theorem dX1_aim_28 : decode cX1_aim 28 = .ok (.istore 5, 2) := by decide +kernel
theorem dX1_aim_30 : decode cX1_aim 30 = .ok (.iload 4, 2) := by decide +kernel
theorem dX1_aim_32 : decode cX1_aim 32 = .ok (.invokestatic 29, 3) := by decide +kernel
theorem dX1_aim_35 : decode cX1_aim 35 = .ok (.iload 5, 2) := by decide +kernel
theorem dX1_aim_37 : decode cX1_aim 37 = .ok (.invokestatic 29, 3) := by decide +kernel
theorem dX1_aim_40 : decode cX1_aim 40 = .ok (.if_icmp .lt 7, 3) := by decide +kernel
theorem dX1_aim_43 : decode cX1_aim 43 = .ok (.iconst 1, 1) := by decide +kernel
theorem dX1_aim_44 : decode cX1_aim 44 = .ok (.goto 4, 3) := by decide +kernel
theorem dX1_aim_47 : decode cX1_aim 47 = .ok (.iconst 0, 1) := by decide +kernel
theorem dX1_aim_48 : decode cX1_aim 48 = .ok (.istore 6, 2) := by decide +kernel
theorem dX1_aim_50 : decode cX1_aim 50 = .ok (.aload_n 0, 1) := by decide +kernel
theorem dX1_aim_51 : decode cX1_aim 51 = .ok (.iload 6, 2) := by decide +kernel
theorem dX1_aim_53 : decode cX1_aim 53 = .ok (.ifCond .eq 11, 3) := by decide +kernel
theorem dX1_aim_56 : decode cX1_aim 56 = .ok (.iload 4, 2) := by decide +kernel
theorem dX1_aim_58 : decode cX1_aim 58 = .ok (.invokestatic 54, 3) := by decide +kernel
theorem dX1_aim_61 : decode cX1_aim 61 = .ok (.goto 4, 3) := by decide +kernel
theorem dX1_aim_64 : decode cX1_aim 64 = .ok (.iconst 0, 1) := by decide +kernel
theorem dX1_aim_65 : decode cX1_aim 65 = .ok (.putfield 59, 3) := by decide +kernel
theorem dX1_aim_68 : decode cX1_aim 68 = .ok (.aload_n 0, 1) := by decide +kernel
theorem dX1_aim_69 : decode cX1_aim 69 = .ok (.iload 6, 2) := by decide +kernel
theorem dX1_aim_71 : decode cX1_aim 71 = .ok (.ifCond .eq 7, 3) := by decide +kernel
theorem dX1_aim_74 : decode cX1_aim 74 = .ok (.iconst 0, 1) := by decide +kernel
theorem dX1_aim_75 : decode cX1_aim 75 = .ok (.goto 8, 3) := by decide +kernel
theorem dX1_aim_78 : decode cX1_aim 78 = .ok (.iload 5, 2) := by decide +kernel
theorem dX1_aim_80 : decode cX1_aim 80 = .ok (.invokestatic 54, 3) := by decide +kernel
theorem dX1_aim_83 : decode cX1_aim 83 = .ok (.putfield 62, 3) := by decide +kernel
theorem dX1_aim_86 : decode cX1_aim 86 = .ok (.return_, 1) := by decide +kernel
theorem dX1_reaches_0 : decode cX1_reaches 0 = .ok (.aload_n 1, 1) := by decide +kernel
theorem dX1_reaches_1 : decode cX1_reaches 1 = .ok (.getfield 51, 3) := by decide +kernel
theorem dX1_reaches_4 : decode cX1_reaches 4 = .ok (.iload_n 3, 1) := by decide +kernel
theorem dX1_reaches_5 : decode cX1_reaches 5 = .ok (.iaload, 1) := by decide +kernel
theorem dX1_reaches_6 : decode cX1_reaches 6 = .ok (.iconst (-1), 1) := by decide +kernel
theorem dX1_reaches_7 : decode cX1_reaches 7 = .ok (.if_icmp .ne 26, 3) := by decide +kernel
theorem dX1_reaches_10 : decode cX1_reaches 10 = .ok (.aload_n 0, 1) := by decide +kernel
theorem dX1_reaches_11 : decode cX1_reaches 11 = .ok (.aload_n 1, 1) := by decide +kernel
theorem dX1_reaches_12 : decode cX1_reaches 12 = .ok (.iload_n 2, 1) := by decide +kernel
theorem dX1_reaches_13 : decode cX1_reaches 13 = .ok (.iload_n 3, 1) := by decide +kernel
theorem dX1_reaches_14 : decode cX1_reaches 14 = .ok (.invokevirtual 65, 3) := by decide +kernel
theorem dX1_reaches_17 : decode cX1_reaches 17 = .ok (.aload_n 0, 1) := by decide +kernel
theorem dX1_reaches_18 : decode cX1_reaches 18 = .ok (.getfield 17, 3) := by decide +kernel
theorem dX1_reaches_21 : decode cX1_reaches 21 = .ok (.getfield 69, 3) := by decide +kernel
theorem dX1_reaches_24 : decode cX1_reaches 24 = .ok (.iload_n 2, 1) := by decide +kernel
theorem dX1_reaches_25 : decode cX1_reaches 25 = .ok (.iaload, 1) := by decide +kernel
theorem dX1_reaches_26 : decode cX1_reaches 26 = .ok (.if_icmp .gt 7, 3) := by decide +kernel
theorem dX1_reaches_29 : decode cX1_reaches 29 = .ok (.iconst 1, 1) := by decide +kernel
theorem dX1_reaches_30 : decode cX1_reaches 30 = .ok (.goto 4, 3) := by decide +kernel
theorem dX1_reaches_33 : decode cX1_reaches 33 = .ok (.iconst 0, 1) := by decide +kernel
theorem dX1_reaches_34 : decode cX1_reaches 34 = .ok (.ireturn, 1) := by decide +kernel
theorem dX1_allows_0 : decode cX1_allows 0 = .ok (.aload_n 1, 1) := by decide +kernel
theorem dX1_allows_1 : decode cX1_allows 1 = .ok (.getfield 72, 3) := by decide +kernel
theorem dX1_allows_4 : decode cX1_allows 4 = .ok (.iload_n 2, 1) := by decide +kernel
theorem dX1_allows_5 : decode cX1_allows 5 = .ok (.iaload, 1) := by decide +kernel
theorem dX1_allows_6 : decode cX1_allows 6 = .ok (.getstatic 75, 3) := by decide +kernel
theorem dX1_allows_9 : decode cX1_allows 9 = .ok (.iload 4, 2) := by decide +kernel
theorem dX1_allows_11 : decode cX1_allows 11 = .ok (.iaload, 1) := by decide +kernel
theorem dX1_allows_12 : decode cX1_allows 12 = .ok (.if_icmp .ge 5, 3) := by decide +kernel
theorem dX1_allows_15 : decode cX1_allows 15 = .ok (.iconst 0, 1) := by decide +kernel
theorem dX1_allows_16 : decode cX1_allows 16 = .ok (.ireturn, 1) := by decide +kernel
theorem dX1_allows_17 : decode cX1_allows 17 = .ok (.iload 4, 2) := by decide +kernel
theorem dX1_allows_19 : decode cX1_allows 19 = .ok (.tableswitch 126 1 4 #[29, 48, 126, 68], 29) := by decide +kernel
theorem dX1_allows_48 : decode cX1_allows 48 = .ok (.aload_n 0, 1) := by decide +kernel
theorem dX1_allows_49 : decode cX1_allows 49 = .ok (.getfield 17, 3) := by decide +kernel
theorem dX1_allows_52 : decode cX1_allows 52 = .ok (.getfield 78, 3) := by decide +kernel
theorem dX1_allows_55 : decode cX1_allows 55 = .ok (.iload_n 3, 1) := by decide +kernel
theorem dX1_allows_56 : decode cX1_allows 56 = .ok (.iaload, 1) := by decide +kernel
theorem dX1_allows_57 : decode cX1_allows 57 = .ok (.iconst 1, 1) := by decide +kernel
theorem dX1_allows_58 : decode cX1_allows 58 = .ok (.if_icmp .ne 7, 3) := by decide +kernel
theorem dX1_allows_61 : decode cX1_allows 61 = .ok (.iconst 1, 1) := by decide +kernel
theorem dX1_allows_62 : decode cX1_allows 62 = .ok (.goto 4, 3) := by decide +kernel
theorem dX1_allows_65 : decode cX1_allows 65 = .ok (.iconst 0, 1) := by decide +kernel
theorem dX1_allows_66 : decode cX1_allows 66 = .ok (.ireturn, 1) := by decide +kernel
theorem dX1_allows_67 : decode cX1_allows 67 = .ok (.aload_n 0, 1) := by decide +kernel
theorem dX1_allows_68 : decode cX1_allows 68 = .ok (.getfield 17, 3) := by decide +kernel
theorem dX1_allows_71 : decode cX1_allows 71 = .ok (.aload_n 1, 1) := by decide +kernel
theorem dX1_allows_72 : decode cX1_allows 72 = .ok (.getfield 21, 3) := by decide +kernel
theorem dX1_allows_75 : decode cX1_allows 75 = .ok (.iload_n 3, 1) := by decide +kernel
theorem dX1_allows_76 : decode cX1_allows 76 = .ok (.iaload, 1) := by decide +kernel
theorem dX1_allows_77 : decode cX1_allows 77 = .ok (.aload_n 1, 1) := by decide +kernel
theorem dX1_allows_78 : decode cX1_allows 78 = .ok (.getfield 35, 3) := by decide +kernel
theorem dX1_allows_81 : decode cX1_allows 81 = .ok (.iload_n 3, 1) := by decide +kernel
theorem dX1_allows_82 : decode cX1_allows 82 = .ok (.iaload, 1) := by decide +kernel
theorem dX1_allows_83 : decode cX1_allows 83 = .ok (.invokevirtual 81, 3) := by decide +kernel
theorem dX1_allows_86 : decode cX1_allows 86 = .ok (.ireturn, 1) := by decide +kernel
theorem dX1_allows_87 : decode cX1_allows 87 = .ok (.aload_n 0, 1) := by decide +kernel
theorem dX1_allows_88 : decode cX1_allows 88 = .ok (.aload_n 1, 1) := by decide +kernel
theorem dX1_allows_89 : decode cX1_allows 89 = .ok (.iload_n 2, 1) := by decide +kernel
theorem dX1_allows_90 : decode cX1_allows 90 = .ok (.iload_n 3, 1) := by decide +kernel
theorem dX1_allows_91 : decode cX1_allows 91 = .ok (.invokevirtual 85, 3) := by decide +kernel
theorem dX1_allows_94 : decode cX1_allows 94 = .ok (.aload_n 0, 1) := by decide +kernel
theorem dX1_allows_95 : decode cX1_allows 95 = .ok (.getfield 59, 3) := by decide +kernel
theorem dX1_allows_98 : decode cX1_allows 98 = .ok (.ifCond .ne 10, 3) := by decide +kernel
theorem dX1_allows_101 : decode cX1_allows 101 = .ok (.aload_n 0, 1) := by decide +kernel
theorem dX1_allows_102 : decode cX1_allows 102 = .ok (.getfield 62, 3) := by decide +kernel
theorem dX1_allows_105 : decode cX1_allows 105 = .ok (.ifCond .eq 38, 3) := by decide +kernel
theorem dX1_allows_108 : decode cX1_allows 108 = .ok (.aload_n 0, 1) := by decide +kernel
theorem dX1_allows_109 : decode cX1_allows 109 = .ok (.aload_n 1, 1) := by decide +kernel
theorem dX1_allows_110 : decode cX1_allows 110 = .ok (.aload_n 1, 1) := by decide +kernel
theorem dX1_allows_111 : decode cX1_allows 111 = .ok (.getfield 21, 3) := by decide +kernel
theorem dX1_allows_114 : decode cX1_allows 114 = .ok (.iload_n 3, 1) := by decide +kernel
theorem dX1_allows_115 : decode cX1_allows 115 = .ok (.iaload, 1) := by decide +kernel
theorem dX1_allows_116 : decode cX1_allows 116 = .ok (.aload_n 0, 1) := by decide +kernel
theorem dX1_allows_117 : decode cX1_allows 117 = .ok (.getfield 59, 3) := by decide +kernel
theorem dX1_allows_120 : decode cX1_allows 120 = .ok (.iadd, 1) := by decide +kernel
theorem dX1_allows_121 : decode cX1_allows 121 = .ok (.aload_n 1, 1) := by decide +kernel
theorem dX1_allows_122 : decode cX1_allows 122 = .ok (.getfield 35, 3) := by decide +kernel
theorem dX1_allows_125 : decode cX1_allows 125 = .ok (.iload_n 3, 1) := by decide +kernel
theorem dX1_allows_126 : decode cX1_allows 126 = .ok (.iaload, 1) := by decide +kernel
theorem dX1_allows_127 : decode cX1_allows 127 = .ok (.aload_n 0, 1) := by decide +kernel
theorem dX1_allows_128 : decode cX1_allows 128 = .ok (.getfield 62, 3) := by decide +kernel
theorem dX1_allows_131 : decode cX1_allows 131 = .ok (.iadd, 1) := by decide +kernel
theorem dX1_allows_132 : decode cX1_allows 132 = .ok (.invokevirtual 89, 3) := by decide +kernel
theorem dX1_allows_135 : decode cX1_allows 135 = .ok (.iconst (-1), 1) := by decide +kernel
theorem dX1_allows_136 : decode cX1_allows 136 = .ok (.if_icmp .eq 7, 3) := by decide +kernel
theorem dX1_allows_139 : decode cX1_allows 139 = .ok (.iconst 1, 1) := by decide +kernel
theorem dX1_allows_140 : decode cX1_allows 140 = .ok (.goto 4, 3) := by decide +kernel
theorem dX1_allows_143 : decode cX1_allows 143 = .ok (.iconst 0, 1) := by decide +kernel
theorem dX1_allows_144 : decode cX1_allows 144 = .ok (.ireturn, 1) := by decide +kernel
theorem dX1_allows_145 : decode cX1_allows 145 = .ok (.iconst 1, 1) := by decide +kernel
theorem dX1_allows_146 : decode cX1_allows 146 = .ok (.ireturn, 1) := by decide +kernel
theorem dX1_canTry_0 : decode cX1_canTry 0 = .ok (.aload_n 0, 1) := by decide +kernel
theorem dX1_canTry_1 : decode cX1_canTry 1 = .ok (.aload_n 1, 1) := by decide +kernel
theorem dX1_canTry_2 : decode cX1_canTry 2 = .ok (.iload_n 2, 1) := by decide +kernel
theorem dX1_canTry_3 : decode cX1_canTry 3 = .ok (.iload_n 3, 1) := by decide +kernel
theorem dX1_canTry_4 : decode cX1_canTry 4 = .ok (.invokevirtual 92, 3) := by decide +kernel
theorem dX1_canTry_7 : decode cX1_canTry 7 = .ok (.ifCond .eq 19, 3) := by decide +kernel
theorem dX1_canTry_10 : decode cX1_canTry 10 = .ok (.aload_n 0, 1) := by decide +kernel
theorem dX1_canTry_11 : decode cX1_canTry 11 = .ok (.aload_n 1, 1) := by decide +kernel
theorem dX1_canTry_12 : decode cX1_canTry 12 = .ok (.iload_n 2, 1) := by decide +kernel
theorem dX1_canTry_13 : decode cX1_canTry 13 = .ok (.iload_n 3, 1) := by decide +kernel
theorem dX1_canTry_14 : decode cX1_canTry 14 = .ok (.iload 4, 2) := by decide +kernel
theorem dX1_canTry_16 : decode cX1_canTry 16 = .ok (.invokevirtual 96, 3) := by decide +kernel
theorem dX1_canTry_19 : decode cX1_canTry 19 = .ok (.ifCond .eq 7, 3) := by decide +kernel
theorem dX1_canTry_22 : decode cX1_canTry 22 = .ok (.iconst 1, 1) := by decide +kernel
theorem dX1_canTry_23 : decode cX1_canTry 23 = .ok (.goto 4, 3) := by decide +kernel
theorem dX1_canTry_26 : decode cX1_canTry 26 = .ok (.iconst 0, 1) := by decide +kernel
theorem dX1_canTry_27 : decode cX1_canTry 27 = .ok (.ireturn, 1) := by decide +kernel
theorem dX1_look_0 : decode cX1_look 0 = .ok (.aload_n 0, 1) := by decide +kernel
theorem dX1_look_1 : decode cX1_look 1 = .ok (.getfield 11, 3) := by decide +kernel
theorem dX1_look_4 : decode cX1_look 4 = .ok (.iconst 0, 1) := by decide +kernel
theorem dX1_look_5 : decode cX1_look 5 = .ok (.aload_n 1, 1) := by decide +kernel
theorem dX1_look_6 : decode cX1_look 6 = .ok (.getfield 100, 3) := by decide +kernel
theorem dX1_look_9 : decode cX1_look 9 = .ok (.iload_n 3, 1) := by decide +kernel
theorem dX1_look_10 : decode cX1_look 10 = .ok (.iaload, 1) := by decide +kernel
theorem dX1_look_11 : decode cX1_look 11 = .ok (.iastore, 1) := by decide +kernel
theorem dX1_look_12 : decode cX1_look 12 = .ok (.aload_n 0, 1) := by decide +kernel
theorem dX1_look_13 : decode cX1_look 13 = .ok (.getfield 11, 3) := by decide +kernel
theorem dX1_look_16 : decode cX1_look 16 = .ok (.iconst 1, 1) := by decide +kernel
theorem dX1_look_17 : decode cX1_look 17 = .ok (.aload_n 0, 1) := by decide +kernel
theorem dX1_look_18 : decode cX1_look 18 = .ok (.getfield 17, 3) := by decide +kernel
theorem dX1_look_21 : decode cX1_look 21 = .ok (.getfield 103, 3) := by decide +kernel
theorem dX1_look_24 : decode cX1_look 24 = .ok (.iload_n 3, 1) := by decide +kernel
theorem dX1_look_25 : decode cX1_look 25 = .ok (.iaload, 1) := by decide +kernel
theorem dX1_look_26 : decode cX1_look 26 = .ok (.iastore, 1) := by decide +kernel
theorem dX1_look_27 : decode cX1_look 27 = .ok (.aload_n 0, 1) := by decide +kernel
theorem dX1_look_28 : decode cX1_look 28 = .ok (.getfield 11, 3) := by decide +kernel
theorem dX1_look_31 : decode cX1_look 31 = .ok (.iconst 2, 1) := by decide +kernel
theorem dX1_look_32 : decode cX1_look 32 = .ok (.aload_n 0, 1) := by decide +kernel
theorem dX1_look_33 : decode cX1_look 33 = .ok (.getfield 17, 3) := by decide +kernel
theorem dX1_look_36 : decode cX1_look 36 = .ok (.getfield 78, 3) := by decide +kernel
theorem dX1_look_39 : decode cX1_look 39 = .ok (.iload_n 3, 1) := by decide +kernel
theorem dX1_look_40 : decode cX1_look 40 = .ok (.iaload, 1) := by decide +kernel
theorem dX1_look_41 : decode cX1_look 41 = .ok (.iastore, 1) := by decide +kernel
theorem dX1_look_42 : decode cX1_look 42 = .ok (.aload_n 0, 1) := by decide +kernel
theorem dX1_look_43 : decode cX1_look 43 = .ok (.getfield 11, 3) := by decide +kernel
theorem dX1_look_46 : decode cX1_look 46 = .ok (.iconst 3, 1) := by decide +kernel
theorem dX1_look_47 : decode cX1_look 47 = .ok (.aload_n 0, 1) := by decide +kernel
theorem dX1_look_48 : decode cX1_look 48 = .ok (.getfield 17, 3) := by decide +kernel
theorem dX1_look_51 : decode cX1_look 51 = .ok (.aload_n 1, 1) := by decide +kernel
theorem dX1_look_52 : decode cX1_look 52 = .ok (.getfield 21, 3) := by decide +kernel
theorem dX1_look_55 : decode cX1_look 55 = .ok (.iload_n 3, 1) := by decide +kernel
theorem dX1_look_56 : decode cX1_look 56 = .ok (.iaload, 1) := by decide +kernel
theorem dX1_look_57 : decode cX1_look 57 = .ok (.aload_n 1, 1) := by decide +kernel
theorem dX1_look_58 : decode cX1_look 58 = .ok (.getfield 35, 3) := by decide +kernel
theorem dX1_look_61 : decode cX1_look 61 = .ok (.iload_n 3, 1) := by decide +kernel
theorem dX1_look_62 : decode cX1_look 62 = .ok (.iaload, 1) := by decide +kernel
theorem dX1_look_63 : decode cX1_look 63 = .ok (.invokevirtual 81, 3) := by decide +kernel
theorem dX1_look_66 : decode cX1_look 66 = .ok (.ifCond .eq 7, 3) := by decide +kernel
theorem dX1_look_69 : decode cX1_look 69 = .ok (.iconst 1, 1) := by decide +kernel
theorem dX1_look_70 : decode cX1_look 70 = .ok (.goto 4, 3) := by decide +kernel
theorem dX1_look_73 : decode cX1_look 73 = .ok (.iconst 0, 1) := by decide +kernel
theorem dX1_look_74 : decode cX1_look 74 = .ok (.iastore, 1) := by decide +kernel
theorem dX1_look_75 : decode cX1_look 75 = .ok (.aload_n 0, 1) := by decide +kernel
theorem dX1_look_76 : decode cX1_look 76 = .ok (.getfield 11, 3) := by decide +kernel
theorem dX1_look_79 : decode cX1_look 79 = .ok (.iconst 4, 1) := by decide +kernel
theorem dX1_look_80 : decode cX1_look 80 = .ok (.aload_n 0, 1) := by decide +kernel
theorem dX1_look_81 : decode cX1_look 81 = .ok (.aload_n 1, 1) := by decide +kernel
theorem dX1_look_82 : decode cX1_look 82 = .ok (.iload_n 2, 1) := by decide +kernel
theorem dX1_look_83 : decode cX1_look 83 = .ok (.iload_n 3, 1) := by decide +kernel
theorem dX1_look_84 : decode cX1_look 84 = .ok (.invokevirtual 65, 3) := by decide +kernel
theorem dX1_look_87 : decode cX1_look 87 = .ok (.iastore, 1) := by decide +kernel
theorem dX1_look_88 : decode cX1_look 88 = .ok (.aload_n 0, 1) := by decide +kernel
theorem dX1_look_89 : decode cX1_look 89 = .ok (.getfield 11, 3) := by decide +kernel
theorem dX1_look_92 : decode cX1_look 92 = .ok (.iconst 5, 1) := by decide +kernel
theorem dX1_look_93 : decode cX1_look 93 = .ok (.aload_n 1, 1) := by decide +kernel
theorem dX1_look_94 : decode cX1_look 94 = .ok (.getfield 106, 3) := by decide +kernel
theorem dX1_look_97 : decode cX1_look 97 = .ok (.iload_n 3, 1) := by decide +kernel
theorem dX1_look_98 : decode cX1_look 98 = .ok (.iaload, 1) := by decide +kernel
theorem dX1_look_99 : decode cX1_look 99 = .ok (.iastore, 1) := by decide +kernel
theorem dX1_look_100 : decode cX1_look 100 = .ok (.aload_n 0, 1) := by decide +kernel
theorem dX1_look_101 : decode cX1_look 101 = .ok (.getfield 11, 3) := by decide +kernel
theorem dX1_look_104 : decode cX1_look 104 = .ok (.bipush 6, 2) := by decide +kernel
theorem dX1_look_106 : decode cX1_look 106 = .ok (.aload_n 0, 1) := by decide +kernel
theorem dX1_look_107 : decode cX1_look 107 = .ok (.getfield 17, 3) := by decide +kernel
theorem dX1_look_110 : decode cX1_look 110 = .ok (.getfield 109, 3) := by decide +kernel
theorem dX1_look_113 : decode cX1_look 113 = .ok (.iload_n 2, 1) := by decide +kernel
theorem dX1_look_114 : decode cX1_look 114 = .ok (.iaload, 1) := by decide +kernel
theorem dX1_look_115 : decode cX1_look 115 = .ok (.iastore, 1) := by decide +kernel
theorem dX1_look_116 : decode cX1_look 116 = .ok (.aload_n 0, 1) := by decide +kernel
theorem dX1_look_117 : decode cX1_look 117 = .ok (.getfield 11, 3) := by decide +kernel
theorem dX1_look_120 : decode cX1_look 120 = .ok (.bipush 7, 2) := by decide +kernel
theorem dX1_look_122 : decode cX1_look 122 = .ok (.aload_n 1, 1) := by decide +kernel
theorem dX1_look_123 : decode cX1_look 123 = .ok (.getfield 72, 3) := by decide +kernel
theorem dX1_look_126 : decode cX1_look 126 = .ok (.iload_n 2, 1) := by decide +kernel
theorem dX1_look_127 : decode cX1_look 127 = .ok (.iaload, 1) := by decide +kernel
theorem dX1_look_128 : decode cX1_look 128 = .ok (.iastore, 1) := by decide +kernel
theorem dX1_look_129 : decode cX1_look 129 = .ok (.aload_n 0, 1) := by decide +kernel
theorem dX1_look_130 : decode cX1_look 130 = .ok (.invokevirtual 112, 3) := by decide +kernel
theorem dX1_look_133 : decode cX1_look 133 = .ok (.return_, 1) := by decide +kernel
theorem dX1_oddsOf_0 : decode cX1_oddsOf 0 = .ok (.aload_n 0, 1) := by decide +kernel
theorem dX1_oddsOf_1 : decode cX1_oddsOf 1 = .ok (.aload_n 1, 1) := by decide +kernel
theorem dX1_oddsOf_2 : decode cX1_oddsOf 2 = .ok (.iload_n 2, 1) := by decide +kernel
theorem dX1_oddsOf_3 : decode cX1_oddsOf 3 = .ok (.iload_n 3, 1) := by decide +kernel
theorem dX1_oddsOf_4 : decode cX1_oddsOf 4 = .ok (.invokevirtual 115, 3) := by decide +kernel
theorem dX1_oddsOf_7 : decode cX1_oddsOf 7 = .ok (.aload_n 0, 1) := by decide +kernel
theorem dX1_oddsOf_8 : decode cX1_oddsOf 8 = .ok (.getfield 17, 3) := by decide +kernel
theorem dX1_oddsOf_11 : decode cX1_oddsOf 11 = .ok (.getfield 118, 3) := by decide +kernel
theorem dX1_oddsOf_14 : decode cX1_oddsOf 14 = .ok (.iload 4, 2) := by decide +kernel
theorem dX1_oddsOf_16 : decode cX1_oddsOf 16 = .ok (.aload_n 0, 1) := by decide +kernel
theorem dX1_oddsOf_17 : decode cX1_oddsOf 17 = .ok (.getfield 11, 3) := by decide +kernel
theorem dX1_oddsOf_20 : decode cX1_oddsOf 20 = .ok (.invokevirtual 122, 3) := by decide +kernel
theorem dX1_oddsOf_23 : decode cX1_oddsOf 23 = .ok (.invokestatic 126, 3) := by decide +kernel
theorem dX1_oddsOf_26 : decode cX1_oddsOf 26 = .ok (.ireturn, 1) := by decide +kernel
theorem dX1_asOdds_0 : decode cX1_asOdds 0 = .ok (.iconst 0, 1) := by decide +kernel
theorem dX1_asOdds_1 : decode cX1_asOdds 1 = .ok (.bipush 100, 2) := by decide +kernel
theorem dX1_asOdds_3 : decode cX1_asOdds 3 = .ok (.iload_n 0, 1) := by decide +kernel
theorem dX1_asOdds_4 : decode cX1_asOdds 4 = .ok (.invokestatic 129, 3) := by decide +kernel
theorem dX1_asOdds_7 : decode cX1_asOdds 7 = .ok (.invokestatic 41, 3) := by decide +kernel
theorem dX1_asOdds_10 : decode cX1_asOdds 10 = .ok (.ireturn, 1) := by decide +kernel
theorem dX1_worthSeen_0 : decode cX1_worthSeen 0 = .ok (.iload_n 1, 1) := by decide +kernel
theorem dX1_worthSeen_1 : decode cX1_worthSeen 1 = .ok (.iconst (-1), 1) := by decide +kernel
theorem dX1_worthSeen_2 : decode cX1_worthSeen 2 = .ok (.if_icmp .ne 5, 3) := by decide +kernel
theorem dX1_worthSeen_5 : decode cX1_worthSeen 5 = .ok (.iconst 0, 1) := by decide +kernel
theorem dX1_worthSeen_6 : decode cX1_worthSeen 6 = .ok (.ireturn, 1) := by decide +kernel
theorem dX1_worthSeen_7 : decode cX1_worthSeen 7 = .ok (.aload_n 0, 1) := by decide +kernel
theorem dX1_worthSeen_8 : decode cX1_worthSeen 8 = .ok (.getfield 17, 3) := by decide +kernel
theorem dX1_worthSeen_11 : decode cX1_worthSeen 11 = .ok (.getfield 118, 3) := by decide +kernel
theorem dX1_worthSeen_14 : decode cX1_worthSeen 14 = .ok (.iload_n 2, 1) := by decide +kernel
theorem dX1_worthSeen_15 : decode cX1_worthSeen 15 = .ok (.aload_n 0, 1) := by decide +kernel
theorem dX1_worthSeen_16 : decode cX1_worthSeen 16 = .ok (.getfield 11, 3) := by decide +kernel
theorem dX1_worthSeen_19 : decode cX1_worthSeen 19 = .ok (.invokevirtual 122, 3) := by decide +kernel
theorem dX1_worthSeen_22 : decode cX1_worthSeen 22 = .ok (.invokestatic 126, 3) := by decide +kernel
theorem dX1_worthSeen_25 : decode cX1_worthSeen 25 = .ok (.istore_n 3, 1) := by decide +kernel
theorem dX1_worthSeen_26 : decode cX1_worthSeen 26 = .ok (.aload_n 0, 1) := by decide +kernel
theorem dX1_worthSeen_27 : decode cX1_worthSeen 27 = .ok (.getfield 11, 3) := by decide +kernel
theorem dX1_worthSeen_30 : decode cX1_worthSeen 30 = .ok (.bipush 8, 2) := by decide +kernel
theorem dX1_worthSeen_32 : decode cX1_worthSeen 32 = .ok (.iload_n 2, 1) := by decide +kernel
theorem dX1_worthSeen_33 : decode cX1_worthSeen 33 = .ok (.iastore, 1) := by decide +kernel
theorem dX1_worthSeen_34 : decode cX1_worthSeen 34 = .ok (.aload_n 0, 1) := by decide +kernel
theorem dX1_worthSeen_35 : decode cX1_worthSeen 35 = .ok (.getfield 11, 3) := by decide +kernel
theorem dX1_worthSeen_38 : decode cX1_worthSeen 38 = .ok (.bipush 9, 2) := by decide +kernel
theorem dX1_worthSeen_40 : decode cX1_worthSeen 40 = .ok (.iload_n 3, 1) := by decide +kernel
theorem dX1_worthSeen_41 : decode cX1_worthSeen 41 = .ok (.iastore, 1) := by decide +kernel
theorem dX1_worthSeen_42 : decode cX1_worthSeen 42 = .ok (.aload_n 0, 1) := by decide +kernel
theorem dX1_worthSeen_43 : decode cX1_worthSeen 43 = .ok (.getfield 17, 3) := by decide +kernel
theorem dX1_worthSeen_46 : decode cX1_worthSeen 46 = .ok (.getfield 118, 3) := by decide +kernel
theorem dX1_worthSeen_49 : decode cX1_worthSeen 49 = .ok (.iconst 5, 1) := by decide +kernel
theorem dX1_worthSeen_50 : decode cX1_worthSeen 50 = .ok (.iload_n 1, 1) := by decide +kernel
theorem dX1_worthSeen_51 : decode cX1_worthSeen 51 = .ok (.iadd, 1) := by decide +kernel
theorem dX1_worthSeen_52 : decode cX1_worthSeen 52 = .ok (.aload_n 0, 1) := by decide +kernel
theorem dX1_worthSeen_53 : decode cX1_worthSeen 53 = .ok (.getfield 11, 3) := by decide +kernel
theorem dX1_worthSeen_56 : decode cX1_worthSeen 56 = .ok (.invokevirtual 122, 3) := by decide +kernel
theorem dX1_worthSeen_59 : decode cX1_worthSeen 59 = .ok (.istore 4, 2) := by decide +kernel
theorem dX1_worthSeen_61 : decode cX1_worthSeen 61 = .ok (.aload_n 0, 1) := by decide +kernel
theorem dX1_worthSeen_62 : decode cX1_worthSeen 62 = .ok (.invokevirtual 112, 3) := by decide +kernel
theorem dX1_worthSeen_65 : decode cX1_worthSeen 65 = .ok (.iload 4, 2) := by decide +kernel
theorem dX1_worthSeen_67 : decode cX1_worthSeen 67 = .ok (.ireturn, 1) := by decide +kernel
theorem dX1_hideTry_0 : decode cX1_hideTry 0 = .ok (.aload_n 0, 1) := by decide +kernel
theorem dX1_hideTry_1 : decode cX1_hideTry 1 = .ok (.getfield 11, 3) := by decide +kernel
theorem dX1_hideTry_4 : decode cX1_hideTry 4 = .ok (.bipush 8, 2) := by decide +kernel
theorem dX1_hideTry_6 : decode cX1_hideTry 6 = .ok (.iconst 0, 1) := by decide +kernel
theorem dX1_hideTry_7 : decode cX1_hideTry 7 = .ok (.iastore, 1) := by decide +kernel
theorem dX1_hideTry_8 : decode cX1_hideTry 8 = .ok (.aload_n 0, 1) := by decide +kernel
theorem dX1_hideTry_9 : decode cX1_hideTry 9 = .ok (.getfield 11, 3) := by decide +kernel
theorem dX1_hideTry_12 : decode cX1_hideTry 12 = .ok (.bipush 9, 2) := by decide +kernel
theorem dX1_hideTry_14 : decode cX1_hideTry 14 = .ok (.iconst 0, 1) := by decide +kernel
theorem dX1_hideTry_15 : decode cX1_hideTry 15 = .ok (.iastore, 1) := by decide +kernel
theorem dX1_hideTry_16 : decode cX1_hideTry 16 = .ok (.return_, 1) := by decide +kernel
theorem dX1_worthOf_0 : decode cX1_worthOf 0 = .ok (.aload_n 0, 1) := by decide +kernel
theorem dX1_worthOf_1 : decode cX1_worthOf 1 = .ok (.aload_n 1, 1) := by decide +kernel
theorem dX1_worthOf_2 : decode cX1_worthOf 2 = .ok (.iload_n 2, 1) := by decide +kernel
theorem dX1_worthOf_3 : decode cX1_worthOf 3 = .ok (.iload_n 3, 1) := by decide +kernel
theorem dX1_worthOf_4 : decode cX1_worthOf 4 = .ok (.invokevirtual 115, 3) := by decide +kernel
theorem dX1_worthOf_7 : decode cX1_worthOf 7 = .ok (.aload_n 0, 1) := by decide +kernel
theorem dX1_worthOf_8 : decode cX1_worthOf 8 = .ok (.iload 4, 2) := by decide +kernel
theorem dX1_worthOf_10 : decode cX1_worthOf 10 = .ok (.iconst 0, 1) := by decide +kernel
theorem dX1_worthOf_11 : decode cX1_worthOf 11 = .ok (.invokevirtual 132, 3) := by decide +kernel
theorem dX1_worthOf_14 : decode cX1_worthOf 14 = .ok (.ireturn, 1) := by decide +kernel
theorem dX1_choose_0 : decode cX1_choose 0 = .ok (.iconst (-1), 1) := by decide +kernel
theorem dX1_choose_1 : decode cX1_choose 1 = .ok (.istore 4, 2) := by decide +kernel
theorem dX1_choose_3 : decode cX1_choose 3 = .ok (.iconst 0, 1) := by decide +kernel
theorem dX1_choose_4 : decode cX1_choose 4 = .ok (.istore 5, 2) := by decide +kernel
theorem dX1_choose_6 : decode cX1_choose 6 = .ok (.iconst 0, 1) := by decide +kernel
theorem dX1_choose_7 : decode cX1_choose 7 = .ok (.istore 6, 2) := by decide +kernel
theorem dX1_choose_9 : decode cX1_choose 9 = .ok (.iload 6, 2) := by decide +kernel
theorem dX1_choose_11 : decode cX1_choose 11 = .ok (.aload_n 0, 1) := by decide +kernel
theorem dX1_choose_12 : decode cX1_choose 12 = .ok (.getfield 17, 3) := by decide +kernel
theorem dX1_choose_15 : decode cX1_choose 15 = .ok (.getfield 45, 3) := by decide +kernel
theorem dX1_choose_18 : decode cX1_choose 18 = .ok (.if_icmp .ge 98, 3) := by decide +kernel
theorem dX1_choose_21 : decode cX1_choose 21 = .ok (.aload_n 0, 1) := by decide +kernel
theorem dX1_choose_22 : decode cX1_choose 22 = .ok (.aload_n 1, 1) := by decide +kernel
theorem dX1_choose_23 : decode cX1_choose 23 = .ok (.iload_n 2, 1) := by decide +kernel
theorem dX1_choose_24 : decode cX1_choose 24 = .ok (.iload 6, 2) := by decide +kernel
theorem dX1_choose_26 : decode cX1_choose 26 = .ok (.invokevirtual 92, 3) := by decide +kernel
theorem dX1_choose_29 : decode cX1_choose 29 = .ok (.ifCond .ne 6, 3) := by decide +kernel
theorem dX1_choose_32 : decode cX1_choose 32 = .ok (.goto 78, 3) := by decide +kernel
theorem dX1_choose_35 : decode cX1_choose 35 = .ok (.aload_n 0, 1) := by decide +kernel
theorem dX1_choose_36 : decode cX1_choose 36 = .ok (.aload_n 1, 1) := by decide +kernel
theorem dX1_choose_37 : decode cX1_choose 37 = .ok (.iload_n 2, 1) := by decide +kernel
theorem dX1_choose_38 : decode cX1_choose 38 = .ok (.iload 6, 2) := by decide +kernel
theorem dX1_choose_40 : decode cX1_choose 40 = .ok (.invokevirtual 115, 3) := by decide +kernel
theorem dX1_choose_43 : decode cX1_choose 43 = .ok (.iconst 0, 1) := by decide +kernel
theorem dX1_choose_44 : decode cX1_choose 44 = .ok (.istore 7, 2) := by decide +kernel
theorem dX1_choose_46 : decode cX1_choose 46 = .ok (.iload 7, 2) := by decide +kernel
theorem dX1_choose_48 : decode cX1_choose 48 = .ok (.iconst 5, 1) := by decide +kernel
theorem dX1_choose_49 : decode cX1_choose 49 = .ok (.if_icmp .ge 61, 3) := by decide +kernel
theorem dX1_choose_52 : decode cX1_choose 52 = .ok (.aload_n 0, 1) := by decide +kernel
theorem dX1_choose_53 : decode cX1_choose 53 = .ok (.aload_n 1, 1) := by decide +kernel
theorem dX1_choose_54 : decode cX1_choose 54 = .ok (.iload_n 2, 1) := by decide +kernel
theorem dX1_choose_55 : decode cX1_choose 55 = .ok (.iload 6, 2) := by decide +kernel
theorem dX1_choose_57 : decode cX1_choose 57 = .ok (.iload 7, 2) := by decide +kernel
theorem dX1_choose_59 : decode cX1_choose 59 = .ok (.invokevirtual 96, 3) := by decide +kernel
theorem dX1_choose_62 : decode cX1_choose 62 = .ok (.ifCond .ne 6, 3) := by decide +kernel
theorem dX1_choose_65 : decode cX1_choose 65 = .ok (.goto 39, 3) := by decide +kernel
theorem dX1_choose_68 : decode cX1_choose 68 = .ok (.aload_n 0, 1) := by decide +kernel
theorem dX1_choose_69 : decode cX1_choose 69 = .ok (.iload_n 3, 1) := by decide +kernel
theorem dX1_choose_70 : decode cX1_choose 70 = .ok (.iload 7, 2) := by decide +kernel
theorem dX1_choose_72 : decode cX1_choose 72 = .ok (.invokevirtual 132, 3) := by decide +kernel
theorem dX1_choose_75 : decode cX1_choose 75 = .ok (.istore 8, 2) := by decide +kernel
theorem dX1_choose_77 : decode cX1_choose 77 = .ok (.iload 4, 2) := by decide +kernel
theorem dX1_choose_79 : decode cX1_choose 79 = .ok (.iconst (-1), 1) := by decide +kernel
theorem dX1_choose_80 : decode cX1_choose 80 = .ok (.if_icmp .eq 10, 3) := by decide +kernel
theorem dX1_choose_83 : decode cX1_choose 83 = .ok (.iload 8, 2) := by decide +kernel
theorem dX1_choose_85 : decode cX1_choose 85 = .ok (.iload 5, 2) := by decide +kernel
theorem dX1_choose_87 : decode cX1_choose 87 = .ok (.if_icmp .le 17, 3) := by decide +kernel
theorem dX1_choose_90 : decode cX1_choose 90 = .ok (.bipush 10, 2) := by decide +kernel
theorem dX1_choose_92 : decode cX1_choose 92 = .ok (.iload 6, 2) := by decide +kernel
theorem dX1_choose_94 : decode cX1_choose 94 = .ok (.imul, 1) := by decide +kernel
theorem dX1_choose_95 : decode cX1_choose 95 = .ok (.iload 7, 2) := by decide +kernel
theorem dX1_choose_97 : decode cX1_choose 97 = .ok (.iadd, 1) := by decide +kernel
theorem dX1_choose_98 : decode cX1_choose 98 = .ok (.istore 4, 2) := by decide +kernel
theorem dX1_choose_100 : decode cX1_choose 100 = .ok (.iload 8, 2) := by decide +kernel
theorem dX1_choose_102 : decode cX1_choose 102 = .ok (.istore 5, 2) := by decide +kernel
theorem dX1_choose_104 : decode cX1_choose 104 = .ok (.iinc 7 1, 3) := by decide +kernel
theorem dX1_choose_107 : decode cX1_choose 107 = .ok (.goto (-61), 3) := by decide +kernel
theorem dX1_choose_110 : decode cX1_choose 110 = .ok (.iinc 6 1, 3) := by decide +kernel
theorem dX1_choose_113 : decode cX1_choose 113 = .ok (.goto (-104), 3) := by decide +kernel
theorem dX1_choose_116 : decode cX1_choose 116 = .ok (.iload 4, 2) := by decide +kernel
theorem dX1_choose_118 : decode cX1_choose 118 = .ok (.ireturn, 1) := by decide +kernel
theorem dX1_tryInEarnest_0 : decode cX1_tryInEarnest 0 = .ok (.aload_n 0, 1) := by decide +kernel
theorem dX1_tryInEarnest_1 : decode cX1_tryInEarnest 1 = .ok (.aload_n 1, 1) := by decide +kernel
theorem dX1_tryInEarnest_2 : decode cX1_tryInEarnest 2 = .ok (.iload_n 2, 1) := by decide +kernel
theorem dX1_tryInEarnest_3 : decode cX1_tryInEarnest 3 = .ok (.iload_n 3, 1) := by decide +kernel
theorem dX1_tryInEarnest_4 : decode cX1_tryInEarnest 4 = .ok (.invokevirtual 115, 3) := by decide +kernel
theorem dX1_tryInEarnest_7 : decode cX1_tryInEarnest 7 = .ok (.aload_n 0, 1) := by decide +kernel
theorem dX1_tryInEarnest_8 : decode cX1_tryInEarnest 8 = .ok (.getfield 17, 3) := by decide +kernel
theorem dX1_tryInEarnest_11 : decode cX1_tryInEarnest 11 = .ok (.getfield 118, 3) := by decide +kernel
theorem dX1_tryInEarnest_14 : decode cX1_tryInEarnest 14 = .ok (.iload 4, 2) := by decide +kernel
theorem dX1_tryInEarnest_16 : decode cX1_tryInEarnest 16 = .ok (.aload_n 0, 1) := by decide +kernel
theorem dX1_tryInEarnest_17 : decode cX1_tryInEarnest 17 = .ok (.getfield 11, 3) := by decide +kernel
theorem dX1_tryInEarnest_20 : decode cX1_tryInEarnest 20 = .ok (.invokevirtual 122, 3) := by decide +kernel
theorem dX1_tryInEarnest_23 : decode cX1_tryInEarnest 23 = .ok (.invokestatic 126, 3) := by decide +kernel
theorem dX1_tryInEarnest_26 : decode cX1_tryInEarnest 26 = .ok (.istore 5, 2) := by decide +kernel
theorem dX1_tryInEarnest_28 : decode cX1_tryInEarnest 28 = .ok (.aload_n 1, 1) := by decide +kernel
theorem dX1_tryInEarnest_29 : decode cX1_tryInEarnest 29 = .ok (.aload_n 1, 1) := by decide +kernel
theorem dX1_tryInEarnest_30 : decode cX1_tryInEarnest 30 = .ok (.getfield 135, 3) := by decide +kernel
theorem dX1_tryInEarnest_33 : decode cX1_tryInEarnest 33 = .ok (.sipush 137, 3) := by decide +kernel
theorem dX1_tryInEarnest_36 : decode cX1_tryInEarnest 36 = .ok (.imul, 1) := by decide +kernel
theorem dX1_tryInEarnest_37 : decode cX1_tryInEarnest 37 = .ok (.bipush 71, 2) := by decide +kernel
theorem dX1_tryInEarnest_39 : decode cX1_tryInEarnest 39 = .ok (.iadd, 1) := by decide +kernel
theorem dX1_tryInEarnest_40 : decode cX1_tryInEarnest 40 = .ok (.sipush 1000, 3) := by decide +kernel
theorem dX1_tryInEarnest_43 : decode cX1_tryInEarnest 43 = .ok (.irem, 1) := by decide +kernel
theorem dX1_tryInEarnest_44 : decode cX1_tryInEarnest 44 = .ok (.putfield 135, 3) := by decide +kernel
theorem dX1_tryInEarnest_47 : decode cX1_tryInEarnest 47 = .ok (.aload_n 1, 1) := by decide +kernel
theorem dX1_tryInEarnest_48 : decode cX1_tryInEarnest 48 = .ok (.getfield 135, 3) := by decide +kernel
theorem dX1_tryInEarnest_51 : decode cX1_tryInEarnest 51 = .ok (.bipush 10, 2) := by decide +kernel
theorem dX1_tryInEarnest_53 : decode cX1_tryInEarnest 53 = .ok (.idiv, 1) := by decide +kernel
theorem dX1_tryInEarnest_54 : decode cX1_tryInEarnest 54 = .ok (.iload 5, 2) := by decide +kernel
theorem dX1_tryInEarnest_56 : decode cX1_tryInEarnest 56 = .ok (.if_icmp .ge 7, 3) := by decide +kernel
theorem dX1_tryInEarnest_59 : decode cX1_tryInEarnest 59 = .ok (.iconst 1, 1) := by decide +kernel
theorem dX1_tryInEarnest_60 : decode cX1_tryInEarnest 60 = .ok (.goto 4, 3) := by decide +kernel
theorem dX1_tryInEarnest_63 : decode cX1_tryInEarnest 63 = .ok (.iconst 0, 1) := by decide +kernel
theorem dX1_tryInEarnest_64 : decode cX1_tryInEarnest 64 = .ok (.istore 6, 2) := by decide +kernel
theorem dX1_tryInEarnest_66 : decode cX1_tryInEarnest 66 = .ok (.aload_n 1, 1) := by decide +kernel
theorem dX1_tryInEarnest_67 : decode cX1_tryInEarnest 67 = .ok (.getfield 138, 3) := by decide +kernel
theorem dX1_tryInEarnest_70 : decode cX1_tryInEarnest 70 = .ok (.iload_n 2, 1) := by decide +kernel
theorem dX1_tryInEarnest_71 : decode cX1_tryInEarnest 71 = .ok (.dup2, 1) := by decide +kernel
theorem dX1_tryInEarnest_72 : decode cX1_tryInEarnest 72 = .ok (.iaload, 1) := by decide +kernel
theorem dX1_tryInEarnest_73 : decode cX1_tryInEarnest 73 = .ok (.getstatic 141, 3) := by decide +kernel
theorem dX1_tryInEarnest_76 : decode cX1_tryInEarnest 76 = .ok (.iload 4, 2) := by decide +kernel
theorem dX1_tryInEarnest_78 : decode cX1_tryInEarnest 78 = .ok (.iaload, 1) := by decide +kernel
theorem dX1_tryInEarnest_79 : decode cX1_tryInEarnest 79 = .ok (.iadd, 1) := by decide +kernel
theorem dX1_tryInEarnest_80 : decode cX1_tryInEarnest 80 = .ok (.iastore, 1) := by decide +kernel
theorem dX1_tryInEarnest_81 : decode cX1_tryInEarnest 81 = .ok (.iload_n 2, 1) := by decide +kernel
theorem dX1_tryInEarnest_82 : decode cX1_tryInEarnest 82 = .ok (.iload 4, 2) := by decide +kernel
theorem dX1_tryInEarnest_84 : decode cX1_tryInEarnest 84 = .ok (.invokestatic 144, 3) := by decide +kernel
theorem dX1_tryInEarnest_87 : decode cX1_tryInEarnest 87 = .ok (.istore 7, 2) := by decide +kernel
theorem dX1_tryInEarnest_89 : decode cX1_tryInEarnest 89 = .ok (.aload_n 1, 1) := by decide +kernel
theorem dX1_tryInEarnest_90 : decode cX1_tryInEarnest 90 = .ok (.getfield 147, 3) := by decide +kernel
theorem dX1_tryInEarnest_93 : decode cX1_tryInEarnest 93 = .ok (.iload 7, 2) := by decide +kernel
theorem dX1_tryInEarnest_95 : decode cX1_tryInEarnest 95 = .ok (.dup2, 1) := by decide +kernel
theorem dX1_tryInEarnest_96 : decode cX1_tryInEarnest 96 = .ok (.iaload, 1) := by decide +kernel
theorem dX1_tryInEarnest_97 : decode cX1_tryInEarnest 97 = .ok (.iconst 1, 1) := by decide +kernel
theorem dX1_tryInEarnest_98 : decode cX1_tryInEarnest 98 = .ok (.iadd, 1) := by decide +kernel
theorem dX1_tryInEarnest_99 : decode cX1_tryInEarnest 99 = .ok (.iastore, 1) := by decide +kernel
theorem dX1_tryInEarnest_100 : decode cX1_tryInEarnest 100 = .ok (.aload_n 1, 1) := by decide +kernel
theorem dX1_tryInEarnest_101 : decode cX1_tryInEarnest 101 = .ok (.getfield 147, 3) := by decide +kernel
theorem dX1_tryInEarnest_104 : decode cX1_tryInEarnest 104 = .ok (.iload 7, 2) := by decide +kernel
theorem dX1_tryInEarnest_106 : decode cX1_tryInEarnest 106 = .ok (.iconst 1, 1) := by decide +kernel
theorem dX1_tryInEarnest_107 : decode cX1_tryInEarnest 107 = .ok (.iadd, 1) := by decide +kernel
theorem dX1_tryInEarnest_108 : decode cX1_tryInEarnest 108 = .ok (.dup2, 1) := by decide +kernel
theorem dX1_tryInEarnest_109 : decode cX1_tryInEarnest 109 = .ok (.iaload, 1) := by decide +kernel
theorem dX1_tryInEarnest_110 : decode cX1_tryInEarnest 110 = .ok (.iload 6, 2) := by decide +kernel
theorem dX1_tryInEarnest_112 : decode cX1_tryInEarnest 112 = .ok (.ifCond .eq 7, 3) := by decide +kernel
theorem dX1_tryInEarnest_115 : decode cX1_tryInEarnest 115 = .ok (.iconst 1, 1) := by decide +kernel
theorem dX1_tryInEarnest_116 : decode cX1_tryInEarnest 116 = .ok (.goto 4, 3) := by decide +kernel
theorem dX1_tryInEarnest_119 : decode cX1_tryInEarnest 119 = .ok (.iconst 0, 1) := by decide +kernel
theorem dX1_tryInEarnest_120 : decode cX1_tryInEarnest 120 = .ok (.iadd, 1) := by decide +kernel
theorem dX1_tryInEarnest_121 : decode cX1_tryInEarnest 121 = .ok (.iastore, 1) := by decide +kernel
theorem dX1_tryInEarnest_122 : decode cX1_tryInEarnest 122 = .ok (.aload_n 1, 1) := by decide +kernel
theorem dX1_tryInEarnest_123 : decode cX1_tryInEarnest 123 = .ok (.getfield 147, 3) := by decide +kernel
theorem dX1_tryInEarnest_126 : decode cX1_tryInEarnest 126 = .ok (.iload 7, 2) := by decide +kernel
theorem dX1_tryInEarnest_128 : decode cX1_tryInEarnest 128 = .ok (.iconst 2, 1) := by decide +kernel
theorem dX1_tryInEarnest_129 : decode cX1_tryInEarnest 129 = .ok (.iadd, 1) := by decide +kernel
theorem dX1_tryInEarnest_130 : decode cX1_tryInEarnest 130 = .ok (.dup2, 1) := by decide +kernel
theorem dX1_tryInEarnest_131 : decode cX1_tryInEarnest 131 = .ok (.iaload, 1) := by decide +kernel
theorem dX1_tryInEarnest_132 : decode cX1_tryInEarnest 132 = .ok (.iload 5, 2) := by decide +kernel
theorem dX1_tryInEarnest_134 : decode cX1_tryInEarnest 134 = .ok (.iadd, 1) := by decide +kernel
theorem dX1_tryInEarnest_135 : decode cX1_tryInEarnest 135 = .ok (.iastore, 1) := by decide +kernel
theorem dX1_tryInEarnest_136 : decode cX1_tryInEarnest 136 = .ok (.iload 6, 2) := by decide +kernel
theorem dX1_tryInEarnest_138 : decode cX1_tryInEarnest 138 = .ok (.ifCond .eq 15, 3) := by decide +kernel
theorem dX1_tryInEarnest_141 : decode cX1_tryInEarnest 141 = .ok (.aload_n 0, 1) := by decide +kernel
theorem dX1_tryInEarnest_142 : decode cX1_tryInEarnest 142 = .ok (.aload_n 1, 1) := by decide +kernel
theorem dX1_tryInEarnest_143 : decode cX1_tryInEarnest 143 = .ok (.iload_n 2, 1) := by decide +kernel
theorem dX1_tryInEarnest_144 : decode cX1_tryInEarnest 144 = .ok (.iload_n 3, 1) := by decide +kernel
theorem dX1_tryInEarnest_145 : decode cX1_tryInEarnest 145 = .ok (.iload 4, 2) := by decide +kernel
theorem dX1_tryInEarnest_147 : decode cX1_tryInEarnest 147 = .ok (.invokevirtual 150, 3) := by decide +kernel
theorem dX1_tryInEarnest_150 : decode cX1_tryInEarnest 150 = .ok (.goto 12, 3) := by decide +kernel
theorem dX1_tryInEarnest_153 : decode cX1_tryInEarnest 153 = .ok (.aload_n 0, 1) := by decide +kernel
theorem dX1_tryInEarnest_154 : decode cX1_tryInEarnest 154 = .ok (.aload_n 1, 1) := by decide +kernel
theorem dX1_tryInEarnest_155 : decode cX1_tryInEarnest 155 = .ok (.iload_n 2, 1) := by decide +kernel
theorem dX1_tryInEarnest_156 : decode cX1_tryInEarnest 156 = .ok (.iload_n 3, 1) := by decide +kernel
theorem dX1_tryInEarnest_157 : decode cX1_tryInEarnest 157 = .ok (.iload 4, 2) := by decide +kernel
theorem dX1_tryInEarnest_159 : decode cX1_tryInEarnest 159 = .ok (.invokevirtual 154, 3) := by decide +kernel
theorem dX1_tryInEarnest_162 : decode cX1_tryInEarnest 162 = .ok (.iload 6, 2) := by decide +kernel
theorem dX1_tryInEarnest_164 : decode cX1_tryInEarnest 164 = .ok (.ireturn, 1) := by decide +kernel
theorem dX1_getBy_0 : decode cX1_getBy 0 = .ok (.aload_n 1, 1) := by decide +kernel
theorem dX1_getBy_1 : decode cX1_getBy 1 = .ok (.getfield 72, 3) := by decide +kernel
theorem dX1_getBy_4 : decode cX1_getBy 4 = .ok (.iload_n 2, 1) := by decide +kernel
theorem dX1_getBy_5 : decode cX1_getBy 5 = .ok (.dup2, 1) := by decide +kernel
theorem dX1_getBy_6 : decode cX1_getBy 6 = .ok (.iaload, 1) := by decide +kernel
theorem dX1_getBy_7 : decode cX1_getBy 7 = .ok (.getstatic 75, 3) := by decide +kernel
theorem dX1_getBy_10 : decode cX1_getBy 10 = .ok (.iload 4, 2) := by decide +kernel
theorem dX1_getBy_12 : decode cX1_getBy 12 = .ok (.iaload, 1) := by decide +kernel
theorem dX1_getBy_13 : decode cX1_getBy 13 = .ok (.isub, 1) := by decide +kernel
theorem dX1_getBy_14 : decode cX1_getBy 14 = .ok (.iastore, 1) := by decide +kernel
theorem dX1_getBy_15 : decode cX1_getBy 15 = .ok (.aload_n 1, 1) := by decide +kernel
theorem dX1_getBy_16 : decode cX1_getBy 16 = .ok (.getfield 51, 3) := by decide +kernel
theorem dX1_getBy_19 : decode cX1_getBy 19 = .ok (.iload_n 3, 1) := by decide +kernel
theorem dX1_getBy_20 : decode cX1_getBy 20 = .ok (.iload_n 2, 1) := by decide +kernel
theorem dX1_getBy_21 : decode cX1_getBy 21 = .ok (.iastore, 1) := by decide +kernel
theorem dX1_getBy_22 : decode cX1_getBy 22 = .ok (.aload_n 1, 1) := by decide +kernel
theorem dX1_getBy_23 : decode cX1_getBy 23 = .ok (.getfield 157, 3) := by decide +kernel
theorem dX1_getBy_26 : decode cX1_getBy 26 = .ok (.iload_n 2, 1) := by decide +kernel
theorem dX1_getBy_27 : decode cX1_getBy 27 = .ok (.dup2, 1) := by decide +kernel
theorem dX1_getBy_28 : decode cX1_getBy 28 = .ok (.iaload, 1) := by decide +kernel
theorem dX1_getBy_29 : decode cX1_getBy 29 = .ok (.iconst 1, 1) := by decide +kernel
theorem dX1_getBy_30 : decode cX1_getBy 30 = .ok (.iadd, 1) := by decide +kernel
theorem dX1_getBy_31 : decode cX1_getBy 31 = .ok (.iastore, 1) := by decide +kernel
theorem dX1_getBy_32 : decode cX1_getBy 32 = .ok (.return_, 1) := by decide +kernel
theorem dX1_missBy_0 : decode cX1_missBy 0 = .ok (.aload_n 1, 1) := by decide +kernel
theorem dX1_missBy_1 : decode cX1_missBy 1 = .ok (.getfield 72, 3) := by decide +kernel
theorem dX1_missBy_4 : decode cX1_missBy 4 = .ok (.iload_n 2, 1) := by decide +kernel
theorem dX1_missBy_5 : decode cX1_missBy 5 = .ok (.dup2, 1) := by decide +kernel
theorem dX1_missBy_6 : decode cX1_missBy 6 = .ok (.iaload, 1) := by decide +kernel
theorem dX1_missBy_7 : decode cX1_missBy 7 = .ok (.getstatic 75, 3) := by decide +kernel
theorem dX1_missBy_10 : decode cX1_missBy 10 = .ok (.iload 4, 2) := by decide +kernel
theorem dX1_missBy_12 : decode cX1_missBy 12 = .ok (.iaload, 1) := by decide +kernel
theorem dX1_missBy_13 : decode cX1_missBy 13 = .ok (.isub, 1) := by decide +kernel
theorem dX1_missBy_14 : decode cX1_missBy 14 = .ok (.iastore, 1) := by decide +kernel
theorem dX1_missBy_15 : decode cX1_missBy 15 = .ok (.aload_n 1, 1) := by decide +kernel
theorem dX1_missBy_16 : decode cX1_missBy 16 = .ok (.getfield 106, 3) := by decide +kernel
theorem dX1_missBy_19 : decode cX1_missBy 19 = .ok (.iload_n 3, 1) := by decide +kernel
theorem dX1_missBy_20 : decode cX1_missBy 20 = .ok (.dup2, 1) := by decide +kernel
theorem dX1_missBy_21 : decode cX1_missBy 21 = .ok (.iaload, 1) := by decide +kernel
theorem dX1_missBy_22 : decode cX1_missBy 22 = .ok (.iconst 1, 1) := by decide +kernel
theorem dX1_missBy_23 : decode cX1_missBy 23 = .ok (.iadd, 1) := by decide +kernel
theorem dX1_missBy_24 : decode cX1_missBy 24 = .ok (.iastore, 1) := by decide +kernel
theorem dX1_missBy_25 : decode cX1_missBy 25 = .ok (.iload 4, 2) := by decide +kernel
theorem dX1_missBy_27 : decode cX1_missBy 27 = .ok (.ifCond .ne 68, 3) := by decide +kernel
theorem dX1_missBy_30 : decode cX1_missBy 30 = .ok (.aload_n 0, 1) := by decide +kernel
theorem dX1_missBy_31 : decode cX1_missBy 31 = .ok (.getfield 17, 3) := by decide +kernel
theorem dX1_missBy_34 : decode cX1_missBy 34 = .ok (.getfield 103, 3) := by decide +kernel
theorem dX1_missBy_37 : decode cX1_missBy 37 = .ok (.iload_n 3, 1) := by decide +kernel
theorem dX1_missBy_38 : decode cX1_missBy 38 = .ok (.iaload, 1) := by decide +kernel
theorem dX1_missBy_39 : decode cX1_missBy 39 = .ok (.aload_n 0, 1) := by decide +kernel
theorem dX1_missBy_40 : decode cX1_missBy 40 = .ok (.getfield 17, 3) := by decide +kernel
theorem dX1_missBy_43 : decode cX1_missBy 43 = .ok (.getfield 160, 3) := by decide +kernel
theorem dX1_missBy_46 : decode cX1_missBy 46 = .ok (.if_icmp .lt 49, 3) := by decide +kernel
theorem dX1_missBy_49 : decode cX1_missBy 49 = .ok (.aload_n 1, 1) := by decide +kernel
theorem dX1_missBy_50 : decode cX1_missBy 50 = .ok (.getfield 100, 3) := by decide +kernel
theorem dX1_missBy_53 : decode cX1_missBy 53 = .ok (.iload_n 3, 1) := by decide +kernel
theorem dX1_missBy_54 : decode cX1_missBy 54 = .ok (.iconst 0, 1) := by decide +kernel
theorem dX1_missBy_55 : decode cX1_missBy 55 = .ok (.aload_n 1, 1) := by decide +kernel
theorem dX1_missBy_56 : decode cX1_missBy 56 = .ok (.getfield 100, 3) := by decide +kernel
theorem dX1_missBy_59 : decode cX1_missBy 59 = .ok (.iload_n 3, 1) := by decide +kernel
theorem dX1_missBy_60 : decode cX1_missBy 60 = .ok (.iaload, 1) := by decide +kernel
theorem dX1_missBy_61 : decode cX1_missBy 61 = .ok (.aload_n 0, 1) := by decide +kernel
theorem dX1_missBy_62 : decode cX1_missBy 62 = .ok (.getfield 17, 3) := by decide +kernel
theorem dX1_missBy_65 : decode cX1_missBy 65 = .ok (.getfield 109, 3) := by decide +kernel
theorem dX1_missBy_68 : decode cX1_missBy 68 = .ok (.iload_n 2, 1) := by decide +kernel
theorem dX1_missBy_69 : decode cX1_missBy 69 = .ok (.iaload, 1) := by decide +kernel
theorem dX1_missBy_70 : decode cX1_missBy 70 = .ok (.isub, 1) := by decide +kernel
theorem dX1_missBy_71 : decode cX1_missBy 71 = .ok (.iconst 1, 1) := by decide +kernel
theorem dX1_missBy_72 : decode cX1_missBy 72 = .ok (.isub, 1) := by decide +kernel
theorem dX1_missBy_73 : decode cX1_missBy 73 = .ok (.invokestatic 41, 3) := by decide +kernel
theorem dX1_missBy_76 : decode cX1_missBy 76 = .ok (.iastore, 1) := by decide +kernel
theorem dX1_missBy_77 : decode cX1_missBy 77 = .ok (.aload_n 1, 1) := by decide +kernel
theorem dX1_missBy_78 : decode cX1_missBy 78 = .ok (.getfield 100, 3) := by decide +kernel
theorem dX1_missBy_81 : decode cX1_missBy 81 = .ok (.iload_n 3, 1) := by decide +kernel
theorem dX1_missBy_82 : decode cX1_missBy 82 = .ok (.iaload, 1) := by decide +kernel
theorem dX1_missBy_83 : decode cX1_missBy 83 = .ok (.ifCond .ne 12, 3) := by decide +kernel
theorem dX1_missBy_86 : decode cX1_missBy 86 = .ok (.aload_n 1, 1) := by decide +kernel
theorem dX1_missBy_87 : decode cX1_missBy 87 = .ok (.getfield 51, 3) := by decide +kernel
theorem dX1_missBy_90 : decode cX1_missBy 90 = .ok (.iload_n 3, 1) := by decide +kernel
theorem dX1_missBy_91 : decode cX1_missBy 91 = .ok (.bipush 9, 2) := by decide +kernel
theorem dX1_missBy_93 : decode cX1_missBy 93 = .ok (.iastore, 1) := by decide +kernel
theorem dX1_missBy_94 : decode cX1_missBy 94 = .ok (.return_, 1) := by decide +kernel
theorem dX1_missBy_95 : decode cX1_missBy 95 = .ok (.iload 4, 2) := by decide +kernel
theorem dX1_missBy_97 : decode cX1_missBy 97 = .ok (.ifCond .eq 9, 3) := by decide +kernel
theorem dX1_missBy_100 : decode cX1_missBy 100 = .ok (.iload 4, 2) := by decide +kernel
theorem dX1_missBy_102 : decode cX1_missBy 102 = .ok (.iconst 1, 1) := by decide +kernel
theorem dX1_missBy_103 : decode cX1_missBy 103 = .ok (.if_icmp .ne 16, 3) := by decide +kernel
theorem dX1_missBy_106 : decode cX1_missBy 106 = .ok (.aload_n 0, 1) := by decide +kernel
theorem dX1_missBy_107 : decode cX1_missBy 107 = .ok (.aload_n 1, 1) := by decide +kernel
theorem dX1_missBy_108 : decode cX1_missBy 108 = .ok (.iload_n 2, 1) := by decide +kernel
theorem dX1_missBy_109 : decode cX1_missBy 109 = .ok (.iload_n 3, 1) := by decide +kernel
theorem dX1_missBy_110 : decode cX1_missBy 110 = .ok (.invokevirtual 85, 3) := by decide +kernel
theorem dX1_missBy_113 : decode cX1_missBy 113 = .ok (.aload_n 0, 1) := by decide +kernel
theorem dX1_missBy_114 : decode cX1_missBy 114 = .ok (.aload_n 1, 1) := by decide +kernel
theorem dX1_missBy_115 : decode cX1_missBy 115 = .ok (.iload_n 3, 1) := by decide +kernel
theorem dX1_missBy_116 : decode cX1_missBy 116 = .ok (.invokevirtual 163, 3) := by decide +kernel
theorem dX1_missBy_119 : decode cX1_missBy 119 = .ok (.return_, 1) := by decide +kernel
theorem dX1_push_0 : decode cX1_push 0 = .ok (.aload_n 0, 1) := by decide +kernel
theorem dX1_push_1 : decode cX1_push 1 = .ok (.getfield 59, 3) := by decide +kernel
theorem dX1_push_4 : decode cX1_push 4 = .ok (.ifCond .ne 11, 3) := by decide +kernel
theorem dX1_push_7 : decode cX1_push 7 = .ok (.aload_n 0, 1) := by decide +kernel
theorem dX1_push_8 : decode cX1_push 8 = .ok (.getfield 62, 3) := by decide +kernel
theorem dX1_push_11 : decode cX1_push 11 = .ok (.ifCond .ne 4, 3) := by decide +kernel
theorem dX1_push_14 : decode cX1_push 14 = .ok (.return_, 1) := by decide +kernel
theorem dX1_push_15 : decode cX1_push 15 = .ok (.aload_n 1, 1) := by decide +kernel
theorem dX1_push_16 : decode cX1_push 16 = .ok (.getfield 21, 3) := by decide +kernel
theorem dX1_push_19 : decode cX1_push 19 = .ok (.iload_n 2, 1) := by decide +kernel
theorem dX1_push_20 : decode cX1_push 20 = .ok (.iaload, 1) := by decide +kernel
theorem dX1_push_21 : decode cX1_push 21 = .ok (.istore_n 3, 1) := by decide +kernel
theorem dX1_push_22 : decode cX1_push 22 = .ok (.aload_n 1, 1) := by decide +kernel
theorem dX1_push_23 : decode cX1_push 23 = .ok (.getfield 35, 3) := by decide +kernel
theorem dX1_push_26 : decode cX1_push 26 = .ok (.iload_n 2, 1) := by decide +kernel
theorem dX1_push_27 : decode cX1_push 27 = .ok (.iaload, 1) := by decide +kernel
theorem dX1_push_28 : decode cX1_push 28 = .ok (.istore 4, 2) := by decide +kernel
theorem dX1_push_30 : decode cX1_push 30 = .ok (.iconst 1, 1) := by decide +kernel
theorem dX1_push_31 : decode cX1_push 31 = .ok (.istore 5, 2) := by decide +kernel
theorem dX1_push_33 : decode cX1_push 33 = .ok (.iload 5, 2) := by decide +kernel
theorem dX1_push_35 : decode cX1_push 35 = .ok (.bipush 6, 2) := by decide +kernel
theorem dX1_push_37 : decode cX1_push 37 = .ok (.if_icmp .ge 37, 3) := by decide +kernel
theorem dX1_push_40 : decode cX1_push 40 = .ok (.aload_n 0, 1) := by decide +kernel
theorem dX1_push_41 : decode cX1_push 41 = .ok (.aload_n 1, 1) := by decide +kernel
theorem dX1_push_42 : decode cX1_push 42 = .ok (.iload_n 3, 1) := by decide +kernel
theorem dX1_push_43 : decode cX1_push 43 = .ok (.iload 5, 2) := by decide +kernel
theorem dX1_push_45 : decode cX1_push 45 = .ok (.aload_n 0, 1) := by decide +kernel
theorem dX1_push_46 : decode cX1_push 46 = .ok (.getfield 59, 3) := by decide +kernel
theorem dX1_push_49 : decode cX1_push 49 = .ok (.imul, 1) := by decide +kernel
theorem dX1_push_50 : decode cX1_push 50 = .ok (.iadd, 1) := by decide +kernel
theorem dX1_push_51 : decode cX1_push 51 = .ok (.iload 4, 2) := by decide +kernel
theorem dX1_push_53 : decode cX1_push 53 = .ok (.iload 5, 2) := by decide +kernel
theorem dX1_push_55 : decode cX1_push 55 = .ok (.aload_n 0, 1) := by decide +kernel
theorem dX1_push_56 : decode cX1_push 56 = .ok (.getfield 62, 3) := by decide +kernel
theorem dX1_push_59 : decode cX1_push 59 = .ok (.imul, 1) := by decide +kernel
theorem dX1_push_60 : decode cX1_push 60 = .ok (.iadd, 1) := by decide +kernel
theorem dX1_push_61 : decode cX1_push 61 = .ok (.invokevirtual 89, 3) := by decide +kernel
theorem dX1_push_64 : decode cX1_push 64 = .ok (.iconst (-1), 1) := by decide +kernel
theorem dX1_push_65 : decode cX1_push 65 = .ok (.if_icmp .eq 9, 3) := by decide +kernel
theorem dX1_push_68 : decode cX1_push 68 = .ok (.iinc 5 1, 3) := by decide +kernel
theorem dX1_push_71 : decode cX1_push 71 = .ok (.goto (-38), 3) := by decide +kernel
theorem dX1_push_74 : decode cX1_push 74 = .ok (.aload_n 0, 1) := by decide +kernel
theorem dX1_push_75 : decode cX1_push 75 = .ok (.getfield 17, 3) := by decide +kernel
theorem dX1_push_78 : decode cX1_push 78 = .ok (.iload_n 3, 1) := by decide +kernel
theorem dX1_push_79 : decode cX1_push 79 = .ok (.iload 5, 2) := by decide +kernel
theorem dX1_push_81 : decode cX1_push 81 = .ok (.aload_n 0, 1) := by decide +kernel
theorem dX1_push_82 : decode cX1_push 82 = .ok (.getfield 59, 3) := by decide +kernel
theorem dX1_push_85 : decode cX1_push 85 = .ok (.imul, 1) := by decide +kernel
theorem dX1_push_86 : decode cX1_push 86 = .ok (.iadd, 1) := by decide +kernel
theorem dX1_push_87 : decode cX1_push 87 = .ok (.iload 4, 2) := by decide +kernel
theorem dX1_push_89 : decode cX1_push 89 = .ok (.iload 5, 2) := by decide +kernel
theorem dX1_push_91 : decode cX1_push 91 = .ok (.aload_n 0, 1) := by decide +kernel
theorem dX1_push_92 : decode cX1_push 92 = .ok (.getfield 62, 3) := by decide +kernel
theorem dX1_push_95 : decode cX1_push 95 = .ok (.imul, 1) := by decide +kernel
theorem dX1_push_96 : decode cX1_push 96 = .ok (.iadd, 1) := by decide +kernel
theorem dX1_push_97 : decode cX1_push 97 = .ok (.invokevirtual 167, 3) := by decide +kernel
theorem dX1_push_100 : decode cX1_push 100 = .ok (.ifCond .ne 4, 3) := by decide +kernel
theorem dX1_push_103 : decode cX1_push 103 = .ok (.return_, 1) := by decide +kernel
theorem dX1_push_104 : decode cX1_push 104 = .ok (.iload 5, 2) := by decide +kernel
theorem dX1_push_106 : decode cX1_push 106 = .ok (.iconst 1, 1) := by decide +kernel
theorem dX1_push_107 : decode cX1_push 107 = .ok (.isub, 1) := by decide +kernel
theorem dX1_push_108 : decode cX1_push 108 = .ok (.istore 6, 2) := by decide +kernel
theorem dX1_push_110 : decode cX1_push 110 = .ok (.iload 6, 2) := by decide +kernel
theorem dX1_push_112 : decode cX1_push 112 = .ok (.ifCond .lt 69, 3) := by decide +kernel
theorem dX1_push_115 : decode cX1_push 115 = .ok (.aload_n 0, 1) := by decide +kernel
theorem dX1_push_116 : decode cX1_push 116 = .ok (.aload_n 1, 1) := by decide +kernel
theorem dX1_push_117 : decode cX1_push 117 = .ok (.iload_n 3, 1) := by decide +kernel
theorem dX1_push_118 : decode cX1_push 118 = .ok (.iload 6, 2) := by decide +kernel
theorem dX1_push_120 : decode cX1_push 120 = .ok (.aload_n 0, 1) := by decide +kernel
theorem dX1_push_121 : decode cX1_push 121 = .ok (.getfield 59, 3) := by decide +kernel
theorem dX1_push_124 : decode cX1_push 124 = .ok (.imul, 1) := by decide +kernel
theorem dX1_push_125 : decode cX1_push 125 = .ok (.iadd, 1) := by decide +kernel
theorem dX1_push_126 : decode cX1_push 126 = .ok (.iload 4, 2) := by decide +kernel
theorem dX1_push_128 : decode cX1_push 128 = .ok (.iload 6, 2) := by decide +kernel
theorem dX1_push_130 : decode cX1_push 130 = .ok (.aload_n 0, 1) := by decide +kernel
theorem dX1_push_131 : decode cX1_push 131 = .ok (.getfield 62, 3) := by decide +kernel
theorem dX1_push_134 : decode cX1_push 134 = .ok (.imul, 1) := by decide +kernel
theorem dX1_push_135 : decode cX1_push 135 = .ok (.iadd, 1) := by decide +kernel
theorem dX1_push_136 : decode cX1_push 136 = .ok (.invokevirtual 89, 3) := by decide +kernel
theorem dX1_push_139 : decode cX1_push 139 = .ok (.istore 7, 2) := by decide +kernel
theorem dX1_push_141 : decode cX1_push 141 = .ok (.iload 7, 2) := by decide +kernel
theorem dX1_push_143 : decode cX1_push 143 = .ok (.iconst (-1), 1) := by decide +kernel
theorem dX1_push_144 : decode cX1_push 144 = .ok (.if_icmp .eq 31, 3) := by decide +kernel
theorem dX1_push_147 : decode cX1_push 147 = .ok (.aload_n 1, 1) := by decide +kernel
theorem dX1_push_148 : decode cX1_push 148 = .ok (.getfield 21, 3) := by decide +kernel
theorem dX1_push_151 : decode cX1_push 151 = .ok (.iload 7, 2) := by decide +kernel
theorem dX1_push_153 : decode cX1_push 153 = .ok (.dup2, 1) := by decide +kernel
theorem dX1_push_154 : decode cX1_push 154 = .ok (.iaload, 1) := by decide +kernel
theorem dX1_push_155 : decode cX1_push 155 = .ok (.aload_n 0, 1) := by decide +kernel
theorem dX1_push_156 : decode cX1_push 156 = .ok (.getfield 59, 3) := by decide +kernel
theorem dX1_push_159 : decode cX1_push 159 = .ok (.iadd, 1) := by decide +kernel
theorem dX1_push_160 : decode cX1_push 160 = .ok (.iastore, 1) := by decide +kernel
theorem dX1_push_161 : decode cX1_push 161 = .ok (.aload_n 1, 1) := by decide +kernel
theorem dX1_push_162 : decode cX1_push 162 = .ok (.getfield 35, 3) := by decide +kernel
theorem dX1_push_165 : decode cX1_push 165 = .ok (.iload 7, 2) := by decide +kernel
theorem dX1_push_167 : decode cX1_push 167 = .ok (.dup2, 1) := by decide +kernel
theorem dX1_push_168 : decode cX1_push 168 = .ok (.iaload, 1) := by decide +kernel
theorem dX1_push_169 : decode cX1_push 169 = .ok (.aload_n 0, 1) := by decide +kernel
theorem dX1_push_170 : decode cX1_push 170 = .ok (.getfield 62, 3) := by decide +kernel
theorem dX1_push_173 : decode cX1_push 173 = .ok (.iadd, 1) := by decide +kernel
theorem dX1_push_174 : decode cX1_push 174 = .ok (.iastore, 1) := by decide +kernel
theorem dX1_push_175 : decode cX1_push 175 = .ok (.iinc 6 (-1), 3) := by decide +kernel
theorem dX1_push_178 : decode cX1_push 178 = .ok (.goto (-68), 3) := by decide +kernel
theorem dX1_push_181 : decode cX1_push 181 = .ok (.return_, 1) := by decide +kernel
theorem dX1_takeBreath_0 : decode cX1_takeBreath 0 = .ok (.aload_n 1, 1) := by decide +kernel
theorem dX1_takeBreath_1 : decode cX1_takeBreath 1 = .ok (.getfield 72, 3) := by decide +kernel
theorem dX1_takeBreath_4 : decode cX1_takeBreath 4 = .ok (.iload_n 2, 1) := by decide +kernel
theorem dX1_takeBreath_5 : decode cX1_takeBreath 5 = .ok (.aload_n 0, 1) := by decide +kernel
theorem dX1_takeBreath_6 : decode cX1_takeBreath 6 = .ok (.getfield 17, 3) := by decide +kernel
theorem dX1_takeBreath_9 : decode cX1_takeBreath 9 = .ok (.getfield 170, 3) := by decide +kernel
theorem dX1_takeBreath_12 : decode cX1_takeBreath 12 = .ok (.iload_n 2, 1) := by decide +kernel
theorem dX1_takeBreath_13 : decode cX1_takeBreath 13 = .ok (.iaload, 1) := by decide +kernel
theorem dX1_takeBreath_14 : decode cX1_takeBreath 14 = .ok (.iastore, 1) := by decide +kernel
theorem dX1_takeBreath_15 : decode cX1_takeBreath 15 = .ok (.aload_n 1, 1) := by decide +kernel
theorem dX1_takeBreath_16 : decode cX1_takeBreath 16 = .ok (.getfield 138, 3) := by decide +kernel
theorem dX1_takeBreath_19 : decode cX1_takeBreath 19 = .ok (.iload_n 2, 1) := by decide +kernel
theorem dX1_takeBreath_20 : decode cX1_takeBreath 20 = .ok (.dup2, 1) := by decide +kernel
theorem dX1_takeBreath_21 : decode cX1_takeBreath 21 = .ok (.iaload, 1) := by decide +kernel
theorem dX1_takeBreath_22 : decode cX1_takeBreath 22 = .ok (.iconst 2, 1) := by decide +kernel
theorem dX1_takeBreath_23 : decode cX1_takeBreath 23 = .ok (.iadd, 1) := by decide +kernel
theorem dX1_takeBreath_24 : decode cX1_takeBreath 24 = .ok (.iastore, 1) := by decide +kernel
theorem dX1_takeBreath_25 : decode cX1_takeBreath 25 = .ok (.return_, 1) := by decide +kernel
theorem dX1_rock_0 : decode cX1_rock 0 = .ok (.iconst 0, 1) := by decide +kernel
theorem dX1_rock_1 : decode cX1_rock 1 = .ok (.istore_n 3, 1) := by decide +kernel
theorem dX1_rock_2 : decode cX1_rock 2 = .ok (.iconst 1, 1) := by decide +kernel
theorem dX1_rock_3 : decode cX1_rock 3 = .ok (.istore 4, 2) := by decide +kernel
theorem dX1_rock_5 : decode cX1_rock 5 = .ok (.iload 4, 2) := by decide +kernel
theorem dX1_rock_7 : decode cX1_rock 7 = .ok (.bipush 6, 2) := by decide +kernel
theorem dX1_rock_9 : decode cX1_rock 9 = .ok (.if_icmp .ge 118, 3) := by decide +kernel
theorem dX1_rock_12 : decode cX1_rock 12 = .ok (.iconst 0, 1) := by decide +kernel
theorem dX1_rock_13 : decode cX1_rock 13 = .ok (.istore 5, 2) := by decide +kernel
theorem dX1_rock_15 : decode cX1_rock 15 = .ok (.iload 5, 2) := by decide +kernel
theorem dX1_rock_17 : decode cX1_rock 17 = .ok (.aload_n 0, 1) := by decide +kernel
theorem dX1_rock_18 : decode cX1_rock 18 = .ok (.getfield 17, 3) := by decide +kernel
theorem dX1_rock_21 : decode cX1_rock 21 = .ok (.getfield 45, 3) := by decide +kernel
theorem dX1_rock_24 : decode cX1_rock 24 = .ok (.if_icmp .ge 97, 3) := by decide +kernel
theorem dX1_rock_27 : decode cX1_rock 27 = .ok (.aload_n 1, 1) := by decide +kernel
theorem dX1_rock_28 : decode cX1_rock 28 = .ok (.getfield 51, 3) := by decide +kernel
theorem dX1_rock_31 : decode cX1_rock 31 = .ok (.iload 5, 2) := by decide +kernel
theorem dX1_rock_33 : decode cX1_rock 33 = .ok (.iaload, 1) := by decide +kernel
theorem dX1_rock_34 : decode cX1_rock 34 = .ok (.iconst (-1), 1) := by decide +kernel
theorem dX1_rock_35 : decode cX1_rock 35 = .ok (.if_icmp .ne 80, 3) := by decide +kernel
theorem dX1_rock_38 : decode cX1_rock 38 = .ok (.aload_n 0, 1) := by decide +kernel
theorem dX1_rock_39 : decode cX1_rock 39 = .ok (.aload_n 1, 1) := by decide +kernel
theorem dX1_rock_40 : decode cX1_rock 40 = .ok (.iload_n 2, 1) := by decide +kernel
theorem dX1_rock_41 : decode cX1_rock 41 = .ok (.iload 5, 2) := by decide +kernel
theorem dX1_rock_43 : decode cX1_rock 43 = .ok (.invokevirtual 171, 3) := by decide +kernel
theorem dX1_rock_46 : decode cX1_rock 46 = .ok (.iload 4, 2) := by decide +kernel
theorem dX1_rock_48 : decode cX1_rock 48 = .ok (.if_icmp .ne 67, 3) := by decide +kernel
theorem dX1_rock_51 : decode cX1_rock 51 = .ok (.aload_n 1, 1) := by decide +kernel
theorem dX1_rock_52 : decode cX1_rock 52 = .ok (.getfield 21, 3) := by decide +kernel
theorem dX1_rock_55 : decode cX1_rock 55 = .ok (.iload 5, 2) := by decide +kernel
theorem dX1_rock_57 : decode cX1_rock 57 = .ok (.iaload, 1) := by decide +kernel
theorem dX1_rock_58 : decode cX1_rock 58 = .ok (.getstatic 174, 3) := by decide +kernel
theorem dX1_rock_61 : decode cX1_rock 61 = .ok (.iload_n 2, 1) := by decide +kernel
theorem dX1_rock_62 : decode cX1_rock 62 = .ok (.iaload, 1) := by decide +kernel
theorem dX1_rock_63 : decode cX1_rock 63 = .ok (.iadd, 1) := by decide +kernel
theorem dX1_rock_64 : decode cX1_rock 64 = .ok (.istore 6, 2) := by decide +kernel
theorem dX1_rock_66 : decode cX1_rock 66 = .ok (.aload_n 1, 1) := by decide +kernel
theorem dX1_rock_67 : decode cX1_rock 67 = .ok (.getfield 35, 3) := by decide +kernel
theorem dX1_rock_70 : decode cX1_rock 70 = .ok (.iload 5, 2) := by decide +kernel
theorem dX1_rock_72 : decode cX1_rock 72 = .ok (.iaload, 1) := by decide +kernel
theorem dX1_rock_73 : decode cX1_rock 73 = .ok (.getstatic 177, 3) := by decide +kernel
theorem dX1_rock_76 : decode cX1_rock 76 = .ok (.iload_n 2, 1) := by decide +kernel
theorem dX1_rock_77 : decode cX1_rock 77 = .ok (.iaload, 1) := by decide +kernel
theorem dX1_rock_78 : decode cX1_rock 78 = .ok (.iadd, 1) := by decide +kernel
theorem dX1_rock_79 : decode cX1_rock 79 = .ok (.istore 7, 2) := by decide +kernel
theorem dX1_rock_81 : decode cX1_rock 81 = .ok (.aload_n 0, 1) := by decide +kernel
theorem dX1_rock_82 : decode cX1_rock 82 = .ok (.aload_n 1, 1) := by decide +kernel
theorem dX1_rock_83 : decode cX1_rock 83 = .ok (.iload 6, 2) := by decide +kernel
theorem dX1_rock_85 : decode cX1_rock 85 = .ok (.iload 7, 2) := by decide +kernel
theorem dX1_rock_87 : decode cX1_rock 87 = .ok (.invokevirtual 89, 3) := by decide +kernel
theorem dX1_rock_90 : decode cX1_rock 90 = .ok (.iconst (-1), 1) := by decide +kernel
theorem dX1_rock_91 : decode cX1_rock 91 = .ok (.if_icmp .ne 24, 3) := by decide +kernel
theorem dX1_rock_94 : decode cX1_rock 94 = .ok (.aload_n 1, 1) := by decide +kernel
theorem dX1_rock_95 : decode cX1_rock 95 = .ok (.getfield 21, 3) := by decide +kernel
theorem dX1_rock_98 : decode cX1_rock 98 = .ok (.iload 5, 2) := by decide +kernel
theorem dX1_rock_100 : decode cX1_rock 100 = .ok (.iload 6, 2) := by decide +kernel
theorem dX1_rock_102 : decode cX1_rock 102 = .ok (.iastore, 1) := by decide +kernel
theorem dX1_rock_103 : decode cX1_rock 103 = .ok (.aload_n 1, 1) := by decide +kernel
theorem dX1_rock_104 : decode cX1_rock 104 = .ok (.getfield 35, 3) := by decide +kernel
theorem dX1_rock_107 : decode cX1_rock 107 = .ok (.iload 5, 2) := by decide +kernel
theorem dX1_rock_109 : decode cX1_rock 109 = .ok (.iload 7, 2) := by decide +kernel
theorem dX1_rock_111 : decode cX1_rock 111 = .ok (.iastore, 1) := by decide +kernel
theorem dX1_rock_112 : decode cX1_rock 112 = .ok (.iinc 3 1, 3) := by decide +kernel
theorem dX1_rock_115 : decode cX1_rock 115 = .ok (.iinc 5 1, 3) := by decide +kernel
theorem dX1_rock_118 : decode cX1_rock 118 = .ok (.goto (-103), 3) := by decide +kernel
theorem dX1_rock_121 : decode cX1_rock 121 = .ok (.iinc 4 1, 3) := by decide +kernel
theorem dX1_rock_124 : decode cX1_rock 124 = .ok (.goto (-119), 3) := by decide +kernel
theorem dX1_rock_127 : decode cX1_rock 127 = .ok (.iload_n 3, 1) := by decide +kernel
theorem dX1_rock_128 : decode cX1_rock 128 = .ok (.ireturn, 1) := by decide +kernel
theorem dX1_rankFrom_0 : decode cX1_rankFrom 0 = .ok (.iload_n 2, 1) := by decide +kernel
theorem dX1_rankFrom_1 : decode cX1_rankFrom 1 = .ok (.tableswitch 68 0 2 #[27, 34, 51], 27) := by decide +kernel
theorem dX1_rankFrom_28 : decode cX1_rankFrom 28 = .ok (.aload_n 1, 1) := by decide +kernel
theorem dX1_rankFrom_29 : decode cX1_rankFrom 29 = .ok (.getfield 21, 3) := by decide +kernel
theorem dX1_rankFrom_32 : decode cX1_rankFrom 32 = .ok (.iload_n 3, 1) := by decide +kernel
theorem dX1_rankFrom_33 : decode cX1_rankFrom 33 = .ok (.iaload, 1) := by decide +kernel
theorem dX1_rankFrom_34 : decode cX1_rankFrom 34 = .ok (.ireturn, 1) := by decide +kernel
theorem dX1_rankFrom_35 : decode cX1_rankFrom 35 = .ok (.aload_n 0, 1) := by decide +kernel
theorem dX1_rankFrom_36 : decode cX1_rankFrom 36 = .ok (.getfield 17, 3) := by decide +kernel
theorem dX1_rankFrom_39 : decode cX1_rankFrom 39 = .ok (.getfield 180, 3) := by decide +kernel
theorem dX1_rankFrom_42 : decode cX1_rankFrom 42 = .ok (.iconst 1, 1) := by decide +kernel
theorem dX1_rankFrom_43 : decode cX1_rankFrom 43 = .ok (.isub, 1) := by decide +kernel
theorem dX1_rankFrom_44 : decode cX1_rankFrom 44 = .ok (.aload_n 1, 1) := by decide +kernel
theorem dX1_rankFrom_45 : decode cX1_rankFrom 45 = .ok (.getfield 21, 3) := by decide +kernel
theorem dX1_rankFrom_48 : decode cX1_rankFrom 48 = .ok (.iload_n 3, 1) := by decide +kernel
theorem dX1_rankFrom_49 : decode cX1_rankFrom 49 = .ok (.iaload, 1) := by decide +kernel
theorem dX1_rankFrom_50 : decode cX1_rankFrom 50 = .ok (.isub, 1) := by decide +kernel
theorem dX1_rankFrom_51 : decode cX1_rankFrom 51 = .ok (.ireturn, 1) := by decide +kernel
theorem dX1_rankFrom_52 : decode cX1_rankFrom 52 = .ok (.aload_n 0, 1) := by decide +kernel
theorem dX1_rankFrom_53 : decode cX1_rankFrom 53 = .ok (.getfield 17, 3) := by decide +kernel
theorem dX1_rankFrom_56 : decode cX1_rankFrom 56 = .ok (.getfield 183, 3) := by decide +kernel
theorem dX1_rankFrom_59 : decode cX1_rankFrom 59 = .ok (.iconst 1, 1) := by decide +kernel
theorem dX1_rankFrom_60 : decode cX1_rankFrom 60 = .ok (.isub, 1) := by decide +kernel
theorem dX1_rankFrom_61 : decode cX1_rankFrom 61 = .ok (.aload_n 1, 1) := by decide +kernel
theorem dX1_rankFrom_62 : decode cX1_rankFrom 62 = .ok (.getfield 35, 3) := by decide +kernel
theorem dX1_rankFrom_65 : decode cX1_rankFrom 65 = .ok (.iload_n 3, 1) := by decide +kernel
theorem dX1_rankFrom_66 : decode cX1_rankFrom 66 = .ok (.iaload, 1) := by decide +kernel
theorem dX1_rankFrom_67 : decode cX1_rankFrom 67 = .ok (.isub, 1) := by decide +kernel
theorem dX1_rankFrom_68 : decode cX1_rankFrom 68 = .ok (.ireturn, 1) := by decide +kernel
theorem dX1_rankFrom_69 : decode cX1_rankFrom 69 = .ok (.aload_n 1, 1) := by decide +kernel
theorem dX1_rankFrom_70 : decode cX1_rankFrom 70 = .ok (.getfield 35, 3) := by decide +kernel
theorem dX1_rankFrom_73 : decode cX1_rankFrom 73 = .ok (.iload_n 3, 1) := by decide +kernel
theorem dX1_rankFrom_74 : decode cX1_rankFrom 74 = .ok (.iaload, 1) := by decide +kernel
theorem dX1_rankFrom_75 : decode cX1_rankFrom 75 = .ok (.ireturn, 1) := by decide +kernel
theorem dX1_turnOf_0 : decode cX1_turnOf 0 = .ok (.aload_n 0, 1) := by decide +kernel
theorem dX1_turnOf_1 : decode cX1_turnOf 1 = .ok (.aload_n 1, 1) := by decide +kernel
theorem dX1_turnOf_2 : decode cX1_turnOf 2 = .ok (.iload_n 2, 1) := by decide +kernel
theorem dX1_turnOf_3 : decode cX1_turnOf 3 = .ok (.iload_n 3, 1) := by decide +kernel
theorem dX1_turnOf_4 : decode cX1_turnOf 4 = .ok (.invokevirtual 186, 3) := by decide +kernel
theorem dX1_turnOf_7 : decode cX1_turnOf 7 = .ok (.istore 4, 2) := by decide +kernel
theorem dX1_turnOf_9 : decode cX1_turnOf 9 = .ok (.iload 4, 2) := by decide +kernel
theorem dX1_turnOf_11 : decode cX1_turnOf 11 = .ok (.iconst (-1), 1) := by decide +kernel
theorem dX1_turnOf_12 : decode cX1_turnOf 12 = .ok (.if_icmp .ne 11, 3) := by decide +kernel
theorem dX1_turnOf_15 : decode cX1_turnOf 15 = .ok (.aload_n 0, 1) := by decide +kernel
theorem dX1_turnOf_16 : decode cX1_turnOf 16 = .ok (.aload_n 1, 1) := by decide +kernel
theorem dX1_turnOf_17 : decode cX1_turnOf 17 = .ok (.iload_n 2, 1) := by decide +kernel
theorem dX1_turnOf_18 : decode cX1_turnOf 18 = .ok (.invokevirtual 189, 3) := by decide +kernel
theorem dX1_turnOf_21 : decode cX1_turnOf 21 = .ok (.iconst 0, 1) := by decide +kernel
theorem dX1_turnOf_22 : decode cX1_turnOf 22 = .ok (.ireturn, 1) := by decide +kernel
theorem dX1_turnOf_23 : decode cX1_turnOf 23 = .ok (.aload_n 0, 1) := by decide +kernel
theorem dX1_turnOf_24 : decode cX1_turnOf 24 = .ok (.aload_n 1, 1) := by decide +kernel
theorem dX1_turnOf_25 : decode cX1_turnOf 25 = .ok (.iload_n 2, 1) := by decide +kernel
theorem dX1_turnOf_26 : decode cX1_turnOf 26 = .ok (.iload 4, 2) := by decide +kernel
theorem dX1_turnOf_28 : decode cX1_turnOf 28 = .ok (.bipush 10, 2) := by decide +kernel
theorem dX1_turnOf_30 : decode cX1_turnOf 30 = .ok (.idiv, 1) := by decide +kernel
theorem dX1_turnOf_31 : decode cX1_turnOf 31 = .ok (.iload 4, 2) := by decide +kernel
theorem dX1_turnOf_33 : decode cX1_turnOf 33 = .ok (.bipush 10, 2) := by decide +kernel
theorem dX1_turnOf_35 : decode cX1_turnOf 35 = .ok (.irem, 1) := by decide +kernel
theorem dX1_turnOf_36 : decode cX1_turnOf 36 = .ok (.invokevirtual 192, 3) := by decide +kernel
theorem dX1_turnOf_39 : decode cX1_turnOf 39 = .ok (.ifCond .eq 7, 3) := by decide +kernel
theorem dX1_turnOf_42 : decode cX1_turnOf 42 = .ok (.iconst 1, 1) := by decide +kernel
theorem dX1_turnOf_43 : decode cX1_turnOf 43 = .ok (.goto 4, 3) := by decide +kernel
theorem dX1_turnOf_46 : decode cX1_turnOf 46 = .ok (.iconst 0, 1) := by decide +kernel
theorem dX1_turnOf_47 : decode cX1_turnOf 47 = .ok (.ireturn, 1) := by decide +kernel
theorem dX1_turnOfAll_0 : decode cX1_turnOfAll 0 = .ok (.iconst 0, 1) := by decide +kernel
theorem dX1_turnOfAll_1 : decode cX1_turnOfAll 1 = .ok (.istore_n 2, 1) := by decide +kernel
theorem dX1_turnOfAll_2 : decode cX1_turnOfAll 2 = .ok (.iconst 0, 1) := by decide +kernel
theorem dX1_turnOfAll_3 : decode cX1_turnOfAll 3 = .ok (.istore_n 3, 1) := by decide +kernel
theorem dX1_turnOfAll_4 : decode cX1_turnOfAll 4 = .ok (.iload_n 3, 1) := by decide +kernel
theorem dX1_turnOfAll_5 : decode cX1_turnOfAll 5 = .ok (.aload_n 0, 1) := by decide +kernel
theorem dX1_turnOfAll_6 : decode cX1_turnOfAll 6 = .ok (.getfield 17, 3) := by decide +kernel
theorem dX1_turnOfAll_9 : decode cX1_turnOfAll 9 = .ok (.getfield 195, 3) := by decide +kernel
theorem dX1_turnOfAll_12 : decode cX1_turnOfAll 12 = .ok (.if_icmp .ge 26, 3) := by decide +kernel
theorem dX1_turnOfAll_15 : decode cX1_turnOfAll 15 = .ok (.iload_n 2, 1) := by decide +kernel
theorem dX1_turnOfAll_16 : decode cX1_turnOfAll 16 = .ok (.aload_n 0, 1) := by decide +kernel
theorem dX1_turnOfAll_17 : decode cX1_turnOfAll 17 = .ok (.aload_n 1, 1) := by decide +kernel
theorem dX1_turnOfAll_18 : decode cX1_turnOfAll 18 = .ok (.iload_n 3, 1) := by decide +kernel
theorem dX1_turnOfAll_19 : decode cX1_turnOfAll 19 = .ok (.aload_n 0, 1) := by decide +kernel
theorem dX1_turnOfAll_20 : decode cX1_turnOfAll 20 = .ok (.getfield 17, 3) := by decide +kernel
theorem dX1_turnOfAll_23 : decode cX1_turnOfAll 23 = .ok (.iload_n 3, 1) := by decide +kernel
theorem dX1_turnOfAll_24 : decode cX1_turnOfAll 24 = .ok (.invokevirtual 198, 3) := by decide +kernel
theorem dX1_turnOfAll_27 : decode cX1_turnOfAll 27 = .ok (.invokevirtual 201, 3) := by decide +kernel
theorem dX1_turnOfAll_30 : decode cX1_turnOfAll 30 = .ok (.iadd, 1) := by decide +kernel
theorem dX1_turnOfAll_31 : decode cX1_turnOfAll 31 = .ok (.istore_n 2, 1) := by decide +kernel
theorem dX1_turnOfAll_32 : decode cX1_turnOfAll 32 = .ok (.iinc 3 1, 3) := by decide +kernel
theorem dX1_turnOfAll_35 : decode cX1_turnOfAll 35 = .ok (.goto (-31), 3) := by decide +kernel
theorem dX1_turnOfAll_38 : decode cX1_turnOfAll 38 = .ok (.iload_n 2, 1) := by decide +kernel
theorem dX1_turnOfAll_39 : decode cX1_turnOfAll 39 = .ok (.ireturn, 1) := by decide +kernel
theorem dX1_isEmpty_0 : decode cX1_isEmpty 0 = .ok (.iconst 0, 1) := by decide +kernel
theorem dX1_isEmpty_1 : decode cX1_isEmpty 1 = .ok (.istore_n 2, 1) := by decide +kernel
theorem dX1_isEmpty_2 : decode cX1_isEmpty 2 = .ok (.iload_n 2, 1) := by decide +kernel
theorem dX1_isEmpty_3 : decode cX1_isEmpty 3 = .ok (.aload_n 0, 1) := by decide +kernel
theorem dX1_isEmpty_4 : decode cX1_isEmpty 4 = .ok (.getfield 17, 3) := by decide +kernel
theorem dX1_isEmpty_7 : decode cX1_isEmpty 7 = .ok (.getfield 45, 3) := by decide +kernel
theorem dX1_isEmpty_10 : decode cX1_isEmpty 10 = .ok (.if_icmp .ge 21, 3) := by decide +kernel
theorem dX1_isEmpty_13 : decode cX1_isEmpty 13 = .ok (.aload_n 1, 1) := by decide +kernel
theorem dX1_isEmpty_14 : decode cX1_isEmpty 14 = .ok (.getfield 51, 3) := by decide +kernel
theorem dX1_isEmpty_17 : decode cX1_isEmpty 17 = .ok (.iload_n 2, 1) := by decide +kernel
theorem dX1_isEmpty_18 : decode cX1_isEmpty 18 = .ok (.iaload, 1) := by decide +kernel
theorem dX1_isEmpty_19 : decode cX1_isEmpty 19 = .ok (.iconst (-1), 1) := by decide +kernel
theorem dX1_isEmpty_20 : decode cX1_isEmpty 20 = .ok (.if_icmp .ne 5, 3) := by decide +kernel
theorem dX1_isEmpty_23 : decode cX1_isEmpty 23 = .ok (.iconst 0, 1) := by decide +kernel
theorem dX1_isEmpty_24 : decode cX1_isEmpty 24 = .ok (.ireturn, 1) := by decide +kernel
theorem dX1_isEmpty_25 : decode cX1_isEmpty 25 = .ok (.iinc 2 1, 3) := by decide +kernel
theorem dX1_isEmpty_28 : decode cX1_isEmpty 28 = .ok (.goto (-26), 3) := by decide +kernel
theorem dX1_isEmpty_31 : decode cX1_isEmpty 31 = .ok (.iconst 1, 1) := by decide +kernel
theorem dX1_isEmpty_32 : decode cX1_isEmpty 32 = .ok (.ireturn, 1) := by decide +kernel
theorem dX2_init_0 : decode cX2_init 0 = .ok (.aload_n 0, 1) := by decide +kernel
theorem dX2_init_1 : decode cX2_init 1 = .ok (.invokespecial 3, 3) := by decide +kernel
theorem dX2_init_4 : decode cX2_init 4 = .ok (.aload_n 0, 1) := by decide +kernel
theorem dX2_init_5 : decode cX2_init 5 = .ok (.bipush 41, 2) := by decide +kernel
theorem dX2_init_7 : decode cX2_init 7 = .ok (.anewarray 9, 3) := by decide +kernel
theorem dX2_init_10 : decode cX2_init 10 = .ok (.putfield 11, 3) := by decide +kernel
theorem dX2_init_13 : decode cX2_init 13 = .ok (.return_, 1) := by decide +kernel
theorem dX2_start_0 : decode cX2_start 0 = .ok (.aload_n 0, 1) := by decide +kernel
theorem dX2_start_1 : decode cX2_start 1 = .ok (.iconst 0, 1) := by decide +kernel
theorem dX2_start_2 : decode cX2_start 2 = .ok (.putfield 15, 3) := by decide +kernel
theorem dX2_start_5 : decode cX2_start 5 = .ok (.aload_n 0, 1) := by decide +kernel
theorem dX2_start_6 : decode cX2_start 6 = .ok (.iconst 0, 1) := by decide +kernel
theorem dX2_start_7 : decode cX2_start 7 = .ok (.putfield 19, 3) := by decide +kernel
theorem dX2_start_10 : decode cX2_start 10 = .ok (.aload_n 0, 1) := by decide +kernel
theorem dX2_start_11 : decode cX2_start 11 = .ok (.iconst 0, 1) := by decide +kernel
theorem dX2_start_12 : decode cX2_start 12 = .ok (.putfield 22, 3) := by decide +kernel
theorem dX2_start_15 : decode cX2_start 15 = .ok (.aload_n 0, 1) := by decide +kernel
theorem dX2_start_16 : decode cX2_start 16 = .ok (.invokevirtual 25, 3) := by decide +kernel
theorem dX2_start_19 : decode cX2_start 19 = .ok (.aload_n 1, 1) := by decide +kernel
theorem dX2_start_20 : decode cX2_start 20 = .ok (.invokevirtual 29, 3) := by decide +kernel
theorem dX2_start_23 : decode cX2_start 23 = .ok (.return_, 1) := by decide +kernel
theorem dX2_keep_0 : decode cX2_keep 0 = .ok (.aload_n 0, 1) := by decide +kernel
theorem dX2_keep_1 : decode cX2_keep 1 = .ok (.getfield 19, 3) := by decide +kernel
theorem dX2_keep_4 : decode cX2_keep 4 = .ok (.bipush 40, 2) := by decide +kernel
theorem dX2_keep_6 : decode cX2_keep 6 = .ok (.if_icmp .ge 16, 3) := by decide +kernel
theorem dX2_keep_9 : decode cX2_keep 9 = .ok (.aload_n 0, 1) := by decide +kernel
theorem dX2_keep_10 : decode cX2_keep 10 = .ok (.dup, 1) := by decide +kernel
theorem dX2_keep_11 : decode cX2_keep 11 = .ok (.getfield 19, 3) := by decide +kernel
theorem dX2_keep_14 : decode cX2_keep 14 = .ok (.iconst 1, 1) := by decide +kernel
theorem dX2_keep_15 : decode cX2_keep 15 = .ok (.iadd, 1) := by decide +kernel
theorem dX2_keep_16 : decode cX2_keep 16 = .ok (.putfield 19, 3) := by decide +kernel
theorem dX2_keep_19 : decode cX2_keep 19 = .ok (.goto 16, 3) := by decide +kernel
theorem dX2_keep_22 : decode cX2_keep 22 = .ok (.aload_n 0, 1) := by decide +kernel
theorem dX2_keep_23 : decode cX2_keep 23 = .ok (.aload_n 0, 1) := by decide +kernel
theorem dX2_keep_24 : decode cX2_keep 24 = .ok (.getfield 15, 3) := by decide +kernel
theorem dX2_keep_27 : decode cX2_keep 27 = .ok (.iconst 1, 1) := by decide +kernel
theorem dX2_keep_28 : decode cX2_keep 28 = .ok (.iadd, 1) := by decide +kernel
theorem dX2_keep_29 : decode cX2_keep 29 = .ok (.bipush 41, 2) := by decide +kernel
theorem dX2_keep_31 : decode cX2_keep 31 = .ok (.irem, 1) := by decide +kernel
theorem dX2_keep_32 : decode cX2_keep 32 = .ok (.putfield 15, 3) := by decide +kernel
theorem dX2_keep_35 : decode cX2_keep 35 = .ok (.aload_n 0, 1) := by decide +kernel
theorem dX2_keep_36 : decode cX2_keep 36 = .ok (.iconst 0, 1) := by decide +kernel
theorem dX2_keep_37 : decode cX2_keep 37 = .ok (.putfield 22, 3) := by decide +kernel
theorem dX2_keep_40 : decode cX2_keep 40 = .ok (.aload_n 0, 1) := by decide +kernel
theorem dX2_keep_41 : decode cX2_keep 41 = .ok (.invokevirtual 25, 3) := by decide +kernel
theorem dX2_keep_44 : decode cX2_keep 44 = .ok (.aload_n 1, 1) := by decide +kernel
theorem dX2_keep_45 : decode cX2_keep 45 = .ok (.invokevirtual 29, 3) := by decide +kernel
theorem dX2_keep_48 : decode cX2_keep 48 = .ok (.return_, 1) := by decide +kernel
theorem dX2_stepBack_0 : decode cX2_stepBack 0 = .ok (.aload_n 0, 1) := by decide +kernel
theorem dX2_stepBack_1 : decode cX2_stepBack 1 = .ok (.getfield 19, 3) := by decide +kernel
theorem dX2_stepBack_4 : decode cX2_stepBack 4 = .ok (.ifCond .ne 5, 3) := by decide +kernel
theorem dX2_stepBack_7 : decode cX2_stepBack 7 = .ok (.iconst 0, 1) := by decide +kernel
theorem dX2_stepBack_8 : decode cX2_stepBack 8 = .ok (.ireturn, 1) := by decide +kernel
theorem dX2_stepBack_9 : decode cX2_stepBack 9 = .ok (.aload_n 0, 1) := by decide +kernel
theorem dX2_stepBack_10 : decode cX2_stepBack 10 = .ok (.dup, 1) := by decide +kernel
theorem dX2_stepBack_11 : decode cX2_stepBack 11 = .ok (.getfield 19, 3) := by decide +kernel
theorem dX2_stepBack_14 : decode cX2_stepBack 14 = .ok (.iconst 1, 1) := by decide +kernel
theorem dX2_stepBack_15 : decode cX2_stepBack 15 = .ok (.isub, 1) := by decide +kernel
theorem dX2_stepBack_16 : decode cX2_stepBack 16 = .ok (.putfield 19, 3) := by decide +kernel
theorem dX2_stepBack_19 : decode cX2_stepBack 19 = .ok (.aload_n 0, 1) := by decide +kernel
theorem dX2_stepBack_20 : decode cX2_stepBack 20 = .ok (.dup, 1) := by decide +kernel
theorem dX2_stepBack_21 : decode cX2_stepBack 21 = .ok (.getfield 22, 3) := by decide +kernel
theorem dX2_stepBack_24 : decode cX2_stepBack 24 = .ok (.iconst 1, 1) := by decide +kernel
theorem dX2_stepBack_25 : decode cX2_stepBack 25 = .ok (.iadd, 1) := by decide +kernel
theorem dX2_stepBack_26 : decode cX2_stepBack 26 = .ok (.putfield 22, 3) := by decide +kernel
theorem dX2_stepBack_29 : decode cX2_stepBack 29 = .ok (.aload_n 1, 1) := by decide +kernel
theorem dX2_stepBack_30 : decode cX2_stepBack 30 = .ok (.aload_n 0, 1) := by decide +kernel
theorem dX2_stepBack_31 : decode cX2_stepBack 31 = .ok (.invokevirtual 25, 3) := by decide +kernel
theorem dX2_stepBack_34 : decode cX2_stepBack 34 = .ok (.invokevirtual 29, 3) := by decide +kernel
theorem dX2_stepBack_37 : decode cX2_stepBack 37 = .ok (.iconst 1, 1) := by decide +kernel
theorem dX2_stepBack_38 : decode cX2_stepBack 38 = .ok (.ireturn, 1) := by decide +kernel
theorem dX2_stepOn_0 : decode cX2_stepOn 0 = .ok (.aload_n 0, 1) := by decide +kernel
theorem dX2_stepOn_1 : decode cX2_stepOn 1 = .ok (.getfield 22, 3) := by decide +kernel
theorem dX2_stepOn_4 : decode cX2_stepOn 4 = .ok (.ifCond .ne 5, 3) := by decide +kernel
theorem dX2_stepOn_7 : decode cX2_stepOn 7 = .ok (.iconst 0, 1) := by decide +kernel
theorem dX2_stepOn_8 : decode cX2_stepOn 8 = .ok (.ireturn, 1) := by decide +kernel
theorem dX2_stepOn_9 : decode cX2_stepOn 9 = .ok (.aload_n 0, 1) := by decide +kernel
theorem dX2_stepOn_10 : decode cX2_stepOn 10 = .ok (.dup, 1) := by decide +kernel
theorem dX2_stepOn_11 : decode cX2_stepOn 11 = .ok (.getfield 19, 3) := by decide +kernel
theorem dX2_stepOn_14 : decode cX2_stepOn 14 = .ok (.iconst 1, 1) := by decide +kernel
theorem dX2_stepOn_15 : decode cX2_stepOn 15 = .ok (.iadd, 1) := by decide +kernel
theorem dX2_stepOn_16 : decode cX2_stepOn 16 = .ok (.putfield 19, 3) := by decide +kernel
theorem dX2_stepOn_19 : decode cX2_stepOn 19 = .ok (.aload_n 0, 1) := by decide +kernel
theorem dX2_stepOn_20 : decode cX2_stepOn 20 = .ok (.dup, 1) := by decide +kernel
theorem dX2_stepOn_21 : decode cX2_stepOn 21 = .ok (.getfield 22, 3) := by decide +kernel
theorem dX2_stepOn_24 : decode cX2_stepOn 24 = .ok (.iconst 1, 1) := by decide +kernel
theorem dX2_stepOn_25 : decode cX2_stepOn 25 = .ok (.isub, 1) := by decide +kernel
theorem dX2_stepOn_26 : decode cX2_stepOn 26 = .ok (.putfield 22, 3) := by decide +kernel
theorem dX2_stepOn_29 : decode cX2_stepOn 29 = .ok (.aload_n 1, 1) := by decide +kernel
theorem dX2_stepOn_30 : decode cX2_stepOn 30 = .ok (.aload_n 0, 1) := by decide +kernel
theorem dX2_stepOn_31 : decode cX2_stepOn 31 = .ok (.invokevirtual 25, 3) := by decide +kernel
theorem dX2_stepOn_34 : decode cX2_stepOn 34 = .ok (.invokevirtual 29, 3) := by decide +kernel
theorem dX2_stepOn_37 : decode cX2_stepOn 37 = .ok (.iconst 1, 1) := by decide +kernel
theorem dX2_stepOn_38 : decode cX2_stepOn 38 = .ok (.ireturn, 1) := by decide +kernel
theorem dX2_atHand_0 : decode cX2_atHand 0 = .ok (.aload_n 0, 1) := by decide +kernel
theorem dX2_atHand_1 : decode cX2_atHand 1 = .ok (.getfield 15, 3) := by decide +kernel
theorem dX2_atHand_4 : decode cX2_atHand 4 = .ok (.aload_n 0, 1) := by decide +kernel
theorem dX2_atHand_5 : decode cX2_atHand 5 = .ok (.getfield 19, 3) := by decide +kernel
theorem dX2_atHand_8 : decode cX2_atHand 8 = .ok (.iadd, 1) := by decide +kernel
theorem dX2_atHand_9 : decode cX2_atHand 9 = .ok (.bipush 41, 2) := by decide +kernel
theorem dX2_atHand_11 : decode cX2_atHand 11 = .ok (.invokestatic 33, 3) := by decide +kernel
theorem dX2_atHand_14 : decode cX2_atHand 14 = .ok (.istore_n 1, 1) := by decide +kernel
theorem dX2_atHand_15 : decode cX2_atHand 15 = .ok (.aload_n 0, 1) := by decide +kernel
theorem dX2_atHand_16 : decode cX2_atHand 16 = .ok (.getfield 11, 3) := by decide +kernel
theorem dX2_atHand_19 : decode cX2_atHand 19 = .ok (.iload_n 1, 1) := by decide +kernel
theorem dX2_atHand_20 : decode cX2_atHand 20 = .ok (.aaload, 1) := by decide +kernel
theorem dX2_atHand_21 : decode cX2_atHand 21 = .ok (.ifnonnull 16, 3) := by decide +kernel
theorem dX2_atHand_24 : decode cX2_atHand 24 = .ok (.aload_n 0, 1) := by decide +kernel
theorem dX2_atHand_25 : decode cX2_atHand 25 = .ok (.getfield 11, 3) := by decide +kernel
theorem dX2_atHand_28 : decode cX2_atHand 28 = .ok (.iload_n 1, 1) := by decide +kernel
theorem dX2_atHand_29 : decode cX2_atHand 29 = .ok (.new 9, 3) := by decide +kernel
theorem dX2_atHand_32 : decode cX2_atHand 32 = .ok (.dup, 1) := by decide +kernel
theorem dX2_atHand_33 : decode cX2_atHand 33 = .ok (.invokespecial 39, 3) := by decide +kernel
theorem dX2_atHand_36 : decode cX2_atHand 36 = .ok (.aastore, 1) := by decide +kernel
theorem dX2_atHand_37 : decode cX2_atHand 37 = .ok (.aload_n 0, 1) := by decide +kernel
theorem dX2_atHand_38 : decode cX2_atHand 38 = .ok (.getfield 11, 3) := by decide +kernel
theorem dX2_atHand_41 : decode cX2_atHand 41 = .ok (.iload_n 1, 1) := by decide +kernel
theorem dX2_atHand_42 : decode cX2_atHand 42 = .ok (.aaload, 1) := by decide +kernel
theorem dX2_atHand_43 : decode cX2_atHand 43 = .ok (.areturn, 1) := by decide +kernel
theorem dX3_init_0 : decode cX3_init 0 = .ok (.aload_n 0, 1) := by decide +kernel
theorem dX3_init_1 : decode cX3_init 1 = .ok (.invokespecial 1, 3) := by decide +kernel
theorem dX3_init_4 : decode cX3_init 4 = .ok (.aload_n 0, 1) := by decide +kernel
theorem dX3_init_5 : decode cX3_init 5 = .ok (.bipush 26, 2) := by decide +kernel
theorem dX3_init_7 : decode cX3_init 7 = .ok (.newarray .long, 2) := by decide +kernel
theorem dX3_init_9 : decode cX3_init 9 = .ok (.putfield 9, 3) := by decide +kernel
theorem dX3_init_12 : decode cX3_init 12 = .ok (.aload_n 0, 1) := by decide +kernel
theorem dX3_init_13 : decode cX3_init 13 = .ok (.iconst 0, 1) := by decide +kernel
theorem dX3_init_14 : decode cX3_init 14 = .ok (.newarray .byte, 2) := by decide +kernel
theorem dX3_init_16 : decode cX3_init 16 = .ok (.putfield 13, 3) := by decide +kernel
theorem dX3_init_19 : decode cX3_init 19 = .ok (.iconst 0, 1) := by decide +kernel
theorem dX3_init_20 : decode cX3_init 20 = .ok (.istore_n 1, 1) := by decide +kernel
theorem dX3_init_21 : decode cX3_init 21 = .ok (.lconst 0, 1) := by decide +kernel
theorem dX3_init_22 : decode cX3_init 22 = .ok (.lstore_n 2, 1) := by decide +kernel
theorem dX3_init_23 : decode cX3_init 23 = .ok (.iconst 0, 1) := by decide +kernel
theorem dX3_init_24 : decode cX3_init 24 = .ok (.istore 4, 2) := by decide +kernel
theorem dX3_init_26 : decode cX3_init 26 = .ok (.iload 4, 2) := by decide +kernel
theorem dX3_init_28 : decode cX3_init 28 = .ok (.ldc 17, 2) := by decide +kernel
theorem dX3_init_30 : decode cX3_init 30 = .ok (.invokevirtual 19, 3) := by decide +kernel
theorem dX3_init_33 : decode cX3_init 33 = .ok (.if_icmp .ge 61, 3) := by decide +kernel
theorem dX3_init_36 : decode cX3_init 36 = .ok (.iload_n 1, 1) := by decide +kernel
theorem dX3_init_37 : decode cX3_init 37 = .ok (.bipush 26, 2) := by decide +kernel
theorem dX3_init_39 : decode cX3_init 39 = .ok (.if_icmp .ge 55, 3) := by decide +kernel
theorem dX3_init_42 : decode cX3_init 42 = .ok (.ldc 17, 2) := by decide +kernel
theorem dX3_init_44 : decode cX3_init 44 = .ok (.iload 4, 2) := by decide +kernel
theorem dX3_init_46 : decode cX3_init 46 = .ok (.invokevirtual 25, 3) := by decide +kernel
theorem dX3_init_49 : decode cX3_init 49 = .ok (.istore 5, 2) := by decide +kernel
theorem dX3_init_51 : decode cX3_init 51 = .ok (.iload 5, 2) := by decide +kernel
theorem dX3_init_53 : decode cX3_init 53 = .ok (.bipush 32, 2) := by decide +kernel
theorem dX3_init_55 : decode cX3_init 55 = .ok (.if_icmp .ne 18, 3) := by decide +kernel
theorem dX3_init_58 : decode cX3_init 58 = .ok (.aload_n 0, 1) := by decide +kernel
theorem dX3_init_59 : decode cX3_init 59 = .ok (.getfield 9, 3) := by decide +kernel
theorem dX3_init_62 : decode cX3_init 62 = .ok (.iload_n 1, 1) := by decide +kernel
theorem dX3_init_63 : decode cX3_init 63 = .ok (.lload_n 2, 1) := by decide +kernel
theorem dX3_init_64 : decode cX3_init 64 = .ok (.lastore, 1) := by decide +kernel
theorem dX3_init_65 : decode cX3_init 65 = .ok (.iinc 1 1, 3) := by decide +kernel
theorem dX3_init_68 : decode cX3_init 68 = .ok (.lconst 0, 1) := by decide +kernel
theorem dX3_init_69 : decode cX3_init 69 = .ok (.lstore_n 2, 1) := by decide +kernel
theorem dX3_init_70 : decode cX3_init 70 = .ok (.goto 18, 3) := by decide +kernel
theorem dX3_init_73 : decode cX3_init 73 = .ok (.lload_n 2, 1) := by decide +kernel
theorem dX3_init_74 : decode cX3_init 74 = .ok (.ldc2_w 29, 3) := by decide +kernel
theorem dX3_init_77 : decode cX3_init 77 = .ok (.lmul, 1) := by decide +kernel
theorem dX3_init_78 : decode cX3_init 78 = .ok (.iload 5, 2) := by decide +kernel
theorem dX3_init_80 : decode cX3_init 80 = .ok (.bipush 97, 2) := by decide +kernel
theorem dX3_init_82 : decode cX3_init 82 = .ok (.isub, 1) := by decide +kernel
theorem dX3_init_83 : decode cX3_init 83 = .ok (.iconst 1, 1) := by decide +kernel
theorem dX3_init_84 : decode cX3_init 84 = .ok (.iadd, 1) := by decide +kernel
theorem dX3_init_85 : decode cX3_init 85 = .ok (.i2l, 1) := by decide +kernel
theorem dX3_init_86 : decode cX3_init 86 = .ok (.ladd, 1) := by decide +kernel
theorem dX3_init_87 : decode cX3_init 87 = .ok (.lstore_n 2, 1) := by decide +kernel
theorem dX3_init_88 : decode cX3_init 88 = .ok (.iinc 4 1, 3) := by decide +kernel
theorem dX3_init_91 : decode cX3_init 91 = .ok (.goto (-65), 3) := by decide +kernel
theorem dX3_init_94 : decode cX3_init 94 = .ok (.return_, 1) := by decide +kernel
theorem dX3_open_0 : decode cX3_open 0 = .ok (.aload_n 0, 1) := by decide +kernel
theorem dX3_open_1 : decode cX3_open 1 = .ok (.aload_n 1, 1) := by decide +kernel
theorem dX3_open_2 : decode cX3_open 2 = .ok (.putfield 13, 3) := by decide +kernel
theorem dX3_open_5 : decode cX3_open 5 = .ok (.aload_n 0, 1) := by decide +kernel
theorem dX3_open_6 : decode cX3_open 6 = .ok (.iload_n 2, 1) := by decide +kernel
theorem dX3_open_7 : decode cX3_open 7 = .ok (.aload_n 1, 1) := by decide +kernel
theorem dX3_open_8 : decode cX3_open 8 = .ok (.arraylength, 1) := by decide +kernel
theorem dX3_open_9 : decode cX3_open 9 = .ok (.invokestatic 31, 3) := by decide +kernel
theorem dX3_open_12 : decode cX3_open 12 = .ok (.putfield 37, 3) := by decide +kernel
theorem dX3_open_15 : decode cX3_open 15 = .ok (.aload_n 0, 1) := by decide +kernel
theorem dX3_open_16 : decode cX3_open 16 = .ok (.iconst 0, 1) := by decide +kernel
theorem dX3_open_17 : decode cX3_open 17 = .ok (.putfield 40, 3) := by decide +kernel
theorem dX3_open_20 : decode cX3_open 20 = .ok (.aload_n 0, 1) := by decide +kernel
theorem dX3_open_21 : decode cX3_open 21 = .ok (.invokevirtual 43, 3) := by decide +kernel
theorem dX3_open_24 : decode cX3_open 24 = .ok (.return_, 1) := by decide +kernel
theorem dX3_next_0 : decode cX3_next 0 = .ok (.aload_n 0, 1) := by decide +kernel
theorem dX3_next_1 : decode cX3_next 1 = .ok (.getfield 40, 3) := by decide +kernel
theorem dX3_next_4 : decode cX3_next 4 = .ok (.aload_n 0, 1) := by decide +kernel
theorem dX3_next_5 : decode cX3_next 5 = .ok (.getfield 37, 3) := by decide +kernel
theorem dX3_next_8 : decode cX3_next 8 = .ok (.if_icmp .ge 44, 3) := by decide +kernel
theorem dX3_next_11 : decode cX3_next 11 = .ok (.aload_n 0, 1) := by decide +kernel
theorem dX3_next_12 : decode cX3_next 12 = .ok (.getfield 13, 3) := by decide +kernel
theorem dX3_next_15 : decode cX3_next 15 = .ok (.aload_n 0, 1) := by decide +kernel
theorem dX3_next_16 : decode cX3_next 16 = .ok (.getfield 40, 3) := by decide +kernel
theorem dX3_next_19 : decode cX3_next 19 = .ok (.baload, 1) := by decide +kernel
theorem dX3_next_20 : decode cX3_next 20 = .ok (.bipush 32, 2) := by decide +kernel
theorem dX3_next_22 : decode cX3_next 22 = .ok (.if_icmp .eq 17, 3) := by decide +kernel
theorem dX3_next_25 : decode cX3_next 25 = .ok (.aload_n 0, 1) := by decide +kernel
theorem dX3_next_26 : decode cX3_next 26 = .ok (.getfield 13, 3) := by decide +kernel
theorem dX3_next_29 : decode cX3_next 29 = .ok (.aload_n 0, 1) := by decide +kernel
theorem dX3_next_30 : decode cX3_next 30 = .ok (.getfield 40, 3) := by decide +kernel
theorem dX3_next_33 : decode cX3_next 33 = .ok (.baload, 1) := by decide +kernel
theorem dX3_next_34 : decode cX3_next 34 = .ok (.bipush 10, 2) := by decide +kernel
theorem dX3_next_36 : decode cX3_next 36 = .ok (.if_icmp .ne 16, 3) := by decide +kernel
theorem dX3_next_39 : decode cX3_next 39 = .ok (.aload_n 0, 1) := by decide +kernel
theorem dX3_next_40 : decode cX3_next 40 = .ok (.dup, 1) := by decide +kernel
theorem dX3_next_41 : decode cX3_next 41 = .ok (.getfield 40, 3) := by decide +kernel
theorem dX3_next_44 : decode cX3_next 44 = .ok (.iconst 1, 1) := by decide +kernel
theorem dX3_next_45 : decode cX3_next 45 = .ok (.iadd, 1) := by decide +kernel
theorem dX3_next_46 : decode cX3_next 46 = .ok (.putfield 40, 3) := by decide +kernel
theorem dX3_next_49 : decode cX3_next 49 = .ok (.goto (-49), 3) := by decide +kernel
theorem dX3_next_52 : decode cX3_next 52 = .ok (.aload_n 0, 1) := by decide +kernel
theorem dX3_next_53 : decode cX3_next 53 = .ok (.aload_n 0, 1) := by decide +kernel
theorem dX3_next_54 : decode cX3_next 54 = .ok (.getfield 40, 3) := by decide +kernel
theorem dX3_next_57 : decode cX3_next 57 = .ok (.putfield 46, 3) := by decide +kernel
theorem dX3_next_60 : decode cX3_next 60 = .ok (.aload_n 0, 1) := by decide +kernel
theorem dX3_next_61 : decode cX3_next 61 = .ok (.getfield 40, 3) := by decide +kernel
theorem dX3_next_64 : decode cX3_next 64 = .ok (.aload_n 0, 1) := by decide +kernel
theorem dX3_next_65 : decode cX3_next 65 = .ok (.getfield 37, 3) := by decide +kernel
theorem dX3_next_68 : decode cX3_next 68 = .ok (.if_icmp .lt 12, 3) := by decide +kernel
theorem dX3_next_71 : decode cX3_next 71 = .ok (.aload_n 0, 1) := by decide +kernel
theorem dX3_next_72 : decode cX3_next 72 = .ok (.bipush 28, 2) := by decide +kernel
theorem dX3_next_74 : decode cX3_next 74 = .ok (.putfield 49, 3) := by decide +kernel
theorem dX3_next_77 : decode cX3_next 77 = .ok (.goto 77, 3) := by decide +kernel
theorem dX3_next_80 : decode cX3_next 80 = .ok (.aload_n 0, 1) := by decide +kernel
theorem dX3_next_81 : decode cX3_next 81 = .ok (.getfield 13, 3) := by decide +kernel
theorem dX3_next_84 : decode cX3_next 84 = .ok (.aload_n 0, 1) := by decide +kernel
theorem dX3_next_85 : decode cX3_next 85 = .ok (.getfield 40, 3) := by decide +kernel
theorem dX3_next_88 : decode cX3_next 88 = .ok (.baload, 1) := by decide +kernel
theorem dX3_next_89 : decode cX3_next 89 = .ok (.bipush 97, 2) := by decide +kernel
theorem dX3_next_91 : decode cX3_next 91 = .ok (.if_icmp .lt 24, 3) := by decide +kernel
theorem dX3_next_94 : decode cX3_next 94 = .ok (.aload_n 0, 1) := by decide +kernel
theorem dX3_next_95 : decode cX3_next 95 = .ok (.getfield 13, 3) := by decide +kernel
theorem dX3_next_98 : decode cX3_next 98 = .ok (.aload_n 0, 1) := by decide +kernel
theorem dX3_next_99 : decode cX3_next 99 = .ok (.getfield 40, 3) := by decide +kernel
theorem dX3_next_102 : decode cX3_next 102 = .ok (.baload, 1) := by decide +kernel
theorem dX3_next_103 : decode cX3_next 103 = .ok (.bipush 122, 2) := by decide +kernel
theorem dX3_next_105 : decode cX3_next 105 = .ok (.if_icmp .gt 10, 3) := by decide +kernel
theorem dX3_next_108 : decode cX3_next 108 = .ok (.aload_n 0, 1) := by decide +kernel
theorem dX3_next_109 : decode cX3_next 109 = .ok (.invokevirtual 52, 3) := by decide +kernel
theorem dX3_next_112 : decode cX3_next 112 = .ok (.goto 42, 3) := by decide +kernel
theorem dX3_next_115 : decode cX3_next 115 = .ok (.aload_n 0, 1) := by decide +kernel
theorem dX3_next_116 : decode cX3_next 116 = .ok (.getfield 13, 3) := by decide +kernel
theorem dX3_next_119 : decode cX3_next 119 = .ok (.aload_n 0, 1) := by decide +kernel
theorem dX3_next_120 : decode cX3_next 120 = .ok (.getfield 40, 3) := by decide +kernel
theorem dX3_next_123 : decode cX3_next 123 = .ok (.baload, 1) := by decide +kernel
theorem dX3_next_124 : decode cX3_next 124 = .ok (.bipush 48, 2) := by decide +kernel
theorem dX3_next_126 : decode cX3_next 126 = .ok (.if_icmp .lt 24, 3) := by decide +kernel
theorem dX3_next_129 : decode cX3_next 129 = .ok (.aload_n 0, 1) := by decide +kernel
theorem dX3_next_130 : decode cX3_next 130 = .ok (.getfield 13, 3) := by decide +kernel
theorem dX3_next_133 : decode cX3_next 133 = .ok (.aload_n 0, 1) := by decide +kernel
theorem dX3_next_134 : decode cX3_next 134 = .ok (.getfield 40, 3) := by decide +kernel
theorem dX3_next_137 : decode cX3_next 137 = .ok (.baload, 1) := by decide +kernel
theorem dX3_next_138 : decode cX3_next 138 = .ok (.bipush 57, 2) := by decide +kernel
theorem dX3_next_140 : decode cX3_next 140 = .ok (.if_icmp .gt 10, 3) := by decide +kernel
theorem dX3_next_143 : decode cX3_next 143 = .ok (.aload_n 0, 1) := by decide +kernel
theorem dX3_next_144 : decode cX3_next 144 = .ok (.invokevirtual 55, 3) := by decide +kernel
theorem dX3_next_147 : decode cX3_next 147 = .ok (.goto 7, 3) := by decide +kernel
theorem dX3_next_150 : decode cX3_next 150 = .ok (.aload_n 0, 1) := by decide +kernel
theorem dX3_next_151 : decode cX3_next 151 = .ok (.invokevirtual 58, 3) := by decide +kernel
theorem dX3_next_154 : decode cX3_next 154 = .ok (.return_, 1) := by decide +kernel
theorem dX3_readWord_0 : decode cX3_readWord 0 = .ok (.aload_n 0, 1) := by decide +kernel
theorem dX3_readWord_1 : decode cX3_readWord 1 = .ok (.lconst 0, 1) := by decide +kernel
theorem dX3_readWord_2 : decode cX3_readWord 2 = .ok (.putfield 61, 3) := by decide +kernel
theorem dX3_readWord_5 : decode cX3_readWord 5 = .ok (.aload_n 0, 1) := by decide +kernel
theorem dX3_readWord_6 : decode cX3_readWord 6 = .ok (.getfield 40, 3) := by decide +kernel
theorem dX3_readWord_9 : decode cX3_readWord 9 = .ok (.aload_n 0, 1) := by decide +kernel
theorem dX3_readWord_10 : decode cX3_readWord 10 = .ok (.getfield 37, 3) := by decide +kernel
theorem dX3_readWord_13 : decode cX3_readWord 13 = .ok (.if_icmp .ge 72, 3) := by decide +kernel
theorem dX3_readWord_16 : decode cX3_readWord 16 = .ok (.aload_n 0, 1) := by decide +kernel
theorem dX3_readWord_17 : decode cX3_readWord 17 = .ok (.getfield 13, 3) := by decide +kernel
theorem dX3_readWord_20 : decode cX3_readWord 20 = .ok (.aload_n 0, 1) := by decide +kernel
theorem dX3_readWord_21 : decode cX3_readWord 21 = .ok (.getfield 40, 3) := by decide +kernel
theorem dX3_readWord_24 : decode cX3_readWord 24 = .ok (.baload, 1) := by decide +kernel
theorem dX3_readWord_25 : decode cX3_readWord 25 = .ok (.bipush 97, 2) := by decide +kernel
theorem dX3_readWord_27 : decode cX3_readWord 27 = .ok (.if_icmp .lt 58, 3) := by decide +kernel
theorem dX3_readWord_30 : decode cX3_readWord 30 = .ok (.aload_n 0, 1) := by decide +kernel
theorem dX3_readWord_31 : decode cX3_readWord 31 = .ok (.getfield 13, 3) := by decide +kernel
theorem dX3_readWord_34 : decode cX3_readWord 34 = .ok (.aload_n 0, 1) := by decide +kernel
theorem dX3_readWord_35 : decode cX3_readWord 35 = .ok (.getfield 40, 3) := by decide +kernel
theorem dX3_readWord_38 : decode cX3_readWord 38 = .ok (.baload, 1) := by decide +kernel
theorem dX3_readWord_39 : decode cX3_readWord 39 = .ok (.bipush 122, 2) := by decide +kernel
theorem dX3_readWord_41 : decode cX3_readWord 41 = .ok (.if_icmp .gt 44, 3) := by decide +kernel
theorem dX3_readWord_44 : decode cX3_readWord 44 = .ok (.aload_n 0, 1) := by decide +kernel
theorem dX3_readWord_45 : decode cX3_readWord 45 = .ok (.aload_n 0, 1) := by decide +kernel
theorem dX3_readWord_46 : decode cX3_readWord 46 = .ok (.getfield 61, 3) := by decide +kernel
theorem dX3_readWord_49 : decode cX3_readWord 49 = .ok (.ldc2_w 29, 3) := by decide +kernel
theorem dX3_readWord_52 : decode cX3_readWord 52 = .ok (.lmul, 1) := by decide +kernel
theorem dX3_readWord_53 : decode cX3_readWord 53 = .ok (.aload_n 0, 1) := by decide +kernel
theorem dX3_readWord_54 : decode cX3_readWord 54 = .ok (.getfield 13, 3) := by decide +kernel
theorem dX3_readWord_57 : decode cX3_readWord 57 = .ok (.aload_n 0, 1) := by decide +kernel
theorem dX3_readWord_58 : decode cX3_readWord 58 = .ok (.getfield 40, 3) := by decide +kernel
theorem dX3_readWord_61 : decode cX3_readWord 61 = .ok (.baload, 1) := by decide +kernel
theorem dX3_readWord_62 : decode cX3_readWord 62 = .ok (.bipush 97, 2) := by decide +kernel
theorem dX3_readWord_64 : decode cX3_readWord 64 = .ok (.isub, 1) := by decide +kernel
theorem dX3_readWord_65 : decode cX3_readWord 65 = .ok (.iconst 1, 1) := by decide +kernel
theorem dX3_readWord_66 : decode cX3_readWord 66 = .ok (.iadd, 1) := by decide +kernel
theorem dX3_readWord_67 : decode cX3_readWord 67 = .ok (.i2l, 1) := by decide +kernel
theorem dX3_readWord_68 : decode cX3_readWord 68 = .ok (.ladd, 1) := by decide +kernel
theorem dX3_readWord_69 : decode cX3_readWord 69 = .ok (.putfield 61, 3) := by decide +kernel
theorem dX3_readWord_72 : decode cX3_readWord 72 = .ok (.aload_n 0, 1) := by decide +kernel
theorem dX3_readWord_73 : decode cX3_readWord 73 = .ok (.dup, 1) := by decide +kernel
theorem dX3_readWord_74 : decode cX3_readWord 74 = .ok (.getfield 40, 3) := by decide +kernel
theorem dX3_readWord_77 : decode cX3_readWord 77 = .ok (.iconst 1, 1) := by decide +kernel
theorem dX3_readWord_78 : decode cX3_readWord 78 = .ok (.iadd, 1) := by decide +kernel
theorem dX3_readWord_79 : decode cX3_readWord 79 = .ok (.putfield 40, 3) := by decide +kernel
theorem dX3_readWord_82 : decode cX3_readWord 82 = .ok (.goto (-77), 3) := by decide +kernel
theorem dX3_readWord_85 : decode cX3_readWord 85 = .ok (.aload_n 0, 1) := by decide +kernel
theorem dX3_readWord_86 : decode cX3_readWord 86 = .ok (.getfield 40, 3) := by decide +kernel
theorem dX3_readWord_89 : decode cX3_readWord 89 = .ok (.aload_n 0, 1) := by decide +kernel
theorem dX3_readWord_90 : decode cX3_readWord 90 = .ok (.getfield 46, 3) := by decide +kernel
theorem dX3_readWord_93 : decode cX3_readWord 93 = .ok (.isub, 1) := by decide +kernel
theorem dX3_readWord_94 : decode cX3_readWord 94 = .ok (.bipush 8, 2) := by decide +kernel
theorem dX3_readWord_96 : decode cX3_readWord 96 = .ok (.if_icmp .le 10, 3) := by decide +kernel
theorem dX3_readWord_99 : decode cX3_readWord 99 = .ok (.aload_n 0, 1) := by decide +kernel
theorem dX3_readWord_100 : decode cX3_readWord 100 = .ok (.bipush 29, 2) := by decide +kernel
theorem dX3_readWord_102 : decode cX3_readWord 102 = .ok (.putfield 49, 3) := by decide +kernel
theorem dX3_readWord_105 : decode cX3_readWord 105 = .ok (.return_, 1) := by decide +kernel
theorem dX3_readWord_106 : decode cX3_readWord 106 = .ok (.aload_n 0, 1) := by decide +kernel
theorem dX3_readWord_107 : decode cX3_readWord 107 = .ok (.bipush 26, 2) := by decide +kernel
theorem dX3_readWord_109 : decode cX3_readWord 109 = .ok (.putfield 49, 3) := by decide +kernel
theorem dX3_readWord_112 : decode cX3_readWord 112 = .ok (.iconst 0, 1) := by decide +kernel
theorem dX3_readWord_113 : decode cX3_readWord 113 = .ok (.istore_n 1, 1) := by decide +kernel
theorem dX3_readWord_114 : decode cX3_readWord 114 = .ok (.iload_n 1, 1) := by decide +kernel
theorem dX3_readWord_115 : decode cX3_readWord 115 = .ok (.bipush 26, 2) := by decide +kernel
theorem dX3_readWord_117 : decode cX3_readWord 117 = .ok (.if_icmp .ge 28, 3) := by decide +kernel
theorem dX3_readWord_120 : decode cX3_readWord 120 = .ok (.aload_n 0, 1) := by decide +kernel
theorem dX3_readWord_121 : decode cX3_readWord 121 = .ok (.getfield 9, 3) := by decide +kernel
theorem dX3_readWord_124 : decode cX3_readWord 124 = .ok (.iload_n 1, 1) := by decide +kernel
theorem dX3_readWord_125 : decode cX3_readWord 125 = .ok (.laload, 1) := by decide +kernel
theorem dX3_readWord_126 : decode cX3_readWord 126 = .ok (.aload_n 0, 1) := by decide +kernel
theorem dX3_readWord_127 : decode cX3_readWord 127 = .ok (.getfield 61, 3) := by decide +kernel
theorem dX3_readWord_130 : decode cX3_readWord 130 = .ok (.lcmp, 1) := by decide +kernel
theorem dX3_readWord_131 : decode cX3_readWord 131 = .ok (.ifCond .ne 8, 3) := by decide +kernel
theorem dX3_readWord_134 : decode cX3_readWord 134 = .ok (.aload_n 0, 1) := by decide +kernel
theorem dX3_readWord_135 : decode cX3_readWord 135 = .ok (.iload_n 1, 1) := by decide +kernel
theorem dX3_readWord_136 : decode cX3_readWord 136 = .ok (.putfield 49, 3) := by decide +kernel
theorem dX3_readWord_139 : decode cX3_readWord 139 = .ok (.iinc 1 1, 3) := by decide +kernel
theorem dX3_readWord_142 : decode cX3_readWord 142 = .ok (.goto (-28), 3) := by decide +kernel
theorem dX3_readWord_145 : decode cX3_readWord 145 = .ok (.return_, 1) := by decide +kernel
theorem dX3_readNumber_0 : decode cX3_readNumber 0 = .ok (.aload_n 0, 1) := by decide +kernel
theorem dX3_readNumber_1 : decode cX3_readNumber 1 = .ok (.iconst 0, 1) := by decide +kernel
theorem dX3_readNumber_2 : decode cX3_readNumber 2 = .ok (.putfield 65, 3) := by decide +kernel
theorem dX3_readNumber_5 : decode cX3_readNumber 5 = .ok (.aload_n 0, 1) := by decide +kernel
theorem dX3_readNumber_6 : decode cX3_readNumber 6 = .ok (.getfield 40, 3) := by decide +kernel
theorem dX3_readNumber_9 : decode cX3_readNumber 9 = .ok (.aload_n 0, 1) := by decide +kernel
theorem dX3_readNumber_10 : decode cX3_readNumber 10 = .ok (.getfield 37, 3) := by decide +kernel
theorem dX3_readNumber_13 : decode cX3_readNumber 13 = .ok (.if_icmp .ge 68, 3) := by decide +kernel
theorem dX3_readNumber_16 : decode cX3_readNumber 16 = .ok (.aload_n 0, 1) := by decide +kernel
theorem dX3_readNumber_17 : decode cX3_readNumber 17 = .ok (.getfield 13, 3) := by decide +kernel
theorem dX3_readNumber_20 : decode cX3_readNumber 20 = .ok (.aload_n 0, 1) := by decide +kernel
theorem dX3_readNumber_21 : decode cX3_readNumber 21 = .ok (.getfield 40, 3) := by decide +kernel
theorem dX3_readNumber_24 : decode cX3_readNumber 24 = .ok (.baload, 1) := by decide +kernel
theorem dX3_readNumber_25 : decode cX3_readNumber 25 = .ok (.bipush 48, 2) := by decide +kernel
theorem dX3_readNumber_27 : decode cX3_readNumber 27 = .ok (.if_icmp .lt 54, 3) := by decide +kernel
theorem dX3_readNumber_30 : decode cX3_readNumber 30 = .ok (.aload_n 0, 1) := by decide +kernel
theorem dX3_readNumber_31 : decode cX3_readNumber 31 = .ok (.getfield 13, 3) := by decide +kernel
theorem dX3_readNumber_34 : decode cX3_readNumber 34 = .ok (.aload_n 0, 1) := by decide +kernel
theorem dX3_readNumber_35 : decode cX3_readNumber 35 = .ok (.getfield 40, 3) := by decide +kernel
theorem dX3_readNumber_38 : decode cX3_readNumber 38 = .ok (.baload, 1) := by decide +kernel
theorem dX3_readNumber_39 : decode cX3_readNumber 39 = .ok (.bipush 57, 2) := by decide +kernel
theorem dX3_readNumber_41 : decode cX3_readNumber 41 = .ok (.if_icmp .gt 40, 3) := by decide +kernel
theorem dX3_readNumber_44 : decode cX3_readNumber 44 = .ok (.aload_n 0, 1) := by decide +kernel
theorem dX3_readNumber_45 : decode cX3_readNumber 45 = .ok (.aload_n 0, 1) := by decide +kernel
theorem dX3_readNumber_46 : decode cX3_readNumber 46 = .ok (.getfield 65, 3) := by decide +kernel
theorem dX3_readNumber_49 : decode cX3_readNumber 49 = .ok (.bipush 10, 2) := by decide +kernel
theorem dX3_readNumber_51 : decode cX3_readNumber 51 = .ok (.imul, 1) := by decide +kernel
theorem dX3_readNumber_52 : decode cX3_readNumber 52 = .ok (.aload_n 0, 1) := by decide +kernel
theorem dX3_readNumber_53 : decode cX3_readNumber 53 = .ok (.getfield 13, 3) := by decide +kernel
theorem dX3_readNumber_56 : decode cX3_readNumber 56 = .ok (.aload_n 0, 1) := by decide +kernel
theorem dX3_readNumber_57 : decode cX3_readNumber 57 = .ok (.getfield 40, 3) := by decide +kernel
theorem dX3_readNumber_60 : decode cX3_readNumber 60 = .ok (.baload, 1) := by decide +kernel
theorem dX3_readNumber_61 : decode cX3_readNumber 61 = .ok (.bipush 48, 2) := by decide +kernel
theorem dX3_readNumber_63 : decode cX3_readNumber 63 = .ok (.isub, 1) := by decide +kernel
theorem dX3_readNumber_64 : decode cX3_readNumber 64 = .ok (.iadd, 1) := by decide +kernel
theorem dX3_readNumber_65 : decode cX3_readNumber 65 = .ok (.putfield 65, 3) := by decide +kernel
theorem dX3_readNumber_68 : decode cX3_readNumber 68 = .ok (.aload_n 0, 1) := by decide +kernel
theorem dX3_readNumber_69 : decode cX3_readNumber 69 = .ok (.dup, 1) := by decide +kernel
theorem dX3_readNumber_70 : decode cX3_readNumber 70 = .ok (.getfield 40, 3) := by decide +kernel
theorem dX3_readNumber_73 : decode cX3_readNumber 73 = .ok (.iconst 1, 1) := by decide +kernel
theorem dX3_readNumber_74 : decode cX3_readNumber 74 = .ok (.iadd, 1) := by decide +kernel
theorem dX3_readNumber_75 : decode cX3_readNumber 75 = .ok (.putfield 40, 3) := by decide +kernel
theorem dX3_readNumber_78 : decode cX3_readNumber 78 = .ok (.goto (-73), 3) := by decide +kernel
theorem dX3_readNumber_81 : decode cX3_readNumber 81 = .ok (.aload_n 0, 1) := by decide +kernel
theorem dX3_readNumber_82 : decode cX3_readNumber 82 = .ok (.getfield 40, 3) := by decide +kernel
theorem dX3_readNumber_85 : decode cX3_readNumber 85 = .ok (.aload_n 0, 1) := by decide +kernel
theorem dX3_readNumber_86 : decode cX3_readNumber 86 = .ok (.getfield 37, 3) := by decide +kernel
theorem dX3_readNumber_89 : decode cX3_readNumber 89 = .ok (.if_icmp .ge 35, 3) := by decide +kernel
theorem dX3_readNumber_92 : decode cX3_readNumber 92 = .ok (.aload_n 0, 1) := by decide +kernel
theorem dX3_readNumber_93 : decode cX3_readNumber 93 = .ok (.getfield 13, 3) := by decide +kernel
theorem dX3_readNumber_96 : decode cX3_readNumber 96 = .ok (.aload_n 0, 1) := by decide +kernel
theorem dX3_readNumber_97 : decode cX3_readNumber 97 = .ok (.getfield 40, 3) := by decide +kernel
theorem dX3_readNumber_100 : decode cX3_readNumber 100 = .ok (.baload, 1) := by decide +kernel
theorem dX3_readNumber_101 : decode cX3_readNumber 101 = .ok (.bipush 97, 2) := by decide +kernel
theorem dX3_readNumber_103 : decode cX3_readNumber 103 = .ok (.if_icmp .lt 21, 3) := by decide +kernel
theorem dX3_readNumber_106 : decode cX3_readNumber 106 = .ok (.aload_n 0, 1) := by decide +kernel
theorem dX3_readNumber_107 : decode cX3_readNumber 107 = .ok (.getfield 13, 3) := by decide +kernel
theorem dX3_readNumber_110 : decode cX3_readNumber 110 = .ok (.aload_n 0, 1) := by decide +kernel
theorem dX3_readNumber_111 : decode cX3_readNumber 111 = .ok (.getfield 40, 3) := by decide +kernel
theorem dX3_readNumber_114 : decode cX3_readNumber 114 = .ok (.baload, 1) := by decide +kernel
theorem dX3_readNumber_115 : decode cX3_readNumber 115 = .ok (.bipush 122, 2) := by decide +kernel
theorem dX3_readNumber_117 : decode cX3_readNumber 117 = .ok (.if_icmp .gt 7, 3) := by decide +kernel
theorem dX3_readNumber_120 : decode cX3_readNumber 120 = .ok (.iconst 1, 1) := by decide +kernel
theorem dX3_readNumber_121 : decode cX3_readNumber 121 = .ok (.goto 4, 3) := by decide +kernel
theorem dX3_readNumber_124 : decode cX3_readNumber 124 = .ok (.iconst 0, 1) := by decide +kernel
theorem dX3_readNumber_125 : decode cX3_readNumber 125 = .ok (.istore_n 1, 1) := by decide +kernel
theorem dX3_readNumber_126 : decode cX3_readNumber 126 = .ok (.aload_n 0, 1) := by decide +kernel
theorem dX3_readNumber_127 : decode cX3_readNumber 127 = .ok (.iload_n 1, 1) := by decide +kernel
theorem dX3_readNumber_128 : decode cX3_readNumber 128 = .ok (.ifCond .ne 16, 3) := by decide +kernel
theorem dX3_readNumber_131 : decode cX3_readNumber 131 = .ok (.aload_n 0, 1) := by decide +kernel
theorem dX3_readNumber_132 : decode cX3_readNumber 132 = .ok (.getfield 40, 3) := by decide +kernel
theorem dX3_readNumber_135 : decode cX3_readNumber 135 = .ok (.aload_n 0, 1) := by decide +kernel
theorem dX3_readNumber_136 : decode cX3_readNumber 136 = .ok (.getfield 46, 3) := by decide +kernel
theorem dX3_readNumber_139 : decode cX3_readNumber 139 = .ok (.isub, 1) := by decide +kernel
theorem dX3_readNumber_140 : decode cX3_readNumber 140 = .ok (.iconst 4, 1) := by decide +kernel
theorem dX3_readNumber_141 : decode cX3_readNumber 141 = .ok (.if_icmp .le 8, 3) := by decide +kernel
theorem dX3_readNumber_144 : decode cX3_readNumber 144 = .ok (.bipush 29, 2) := by decide +kernel
theorem dX3_readNumber_146 : decode cX3_readNumber 146 = .ok (.goto 5, 3) := by decide +kernel
theorem dX3_readNumber_149 : decode cX3_readNumber 149 = .ok (.bipush 27, 2) := by decide +kernel
theorem dX3_readNumber_151 : decode cX3_readNumber 151 = .ok (.putfield 49, 3) := by decide +kernel
theorem dX3_readNumber_154 : decode cX3_readNumber 154 = .ok (.return_, 1) := by decide +kernel
theorem dX3_readSign_0 : decode cX3_readSign 0 = .ok (.aload_n 0, 1) := by decide +kernel
theorem dX3_readSign_1 : decode cX3_readSign 1 = .ok (.getfield 13, 3) := by decide +kernel
theorem dX3_readSign_4 : decode cX3_readSign 4 = .ok (.aload_n 0, 1) := by decide +kernel
theorem dX3_readSign_5 : decode cX3_readSign 5 = .ok (.getfield 40, 3) := by decide +kernel
theorem dX3_readSign_8 : decode cX3_readSign 8 = .ok (.baload, 1) := by decide +kernel
theorem dX3_readSign_9 : decode cX3_readSign 9 = .ok (.istore_n 1, 1) := by decide +kernel
theorem dX3_readSign_10 : decode cX3_readSign 10 = .ok (.iload_n 1, 1) := by decide +kernel
theorem dX3_readSign_11 : decode cX3_readSign 11 = .ok (.tableswitch 135 37 62 #[117, 135, 135, 117, 117, 117, 117, 135, 117, 135, 117, 135, 135, 135, 135, 135, 135, 135, 135, 135, 135, 135, 117, 117, 117, 117], 117) := by decide +kernel
theorem dX3_readSign_128 : decode cX3_readSign 128 = .ok (.aload_n 0, 1) := by decide +kernel
theorem dX3_readSign_129 : decode cX3_readSign 129 = .ok (.iload_n 1, 1) := by decide +kernel
theorem dX3_readSign_130 : decode cX3_readSign 130 = .ok (.putfield 49, 3) := by decide +kernel
theorem dX3_readSign_133 : decode cX3_readSign 133 = .ok (.aload_n 0, 1) := by decide +kernel
theorem dX3_readSign_134 : decode cX3_readSign 134 = .ok (.dup, 1) := by decide +kernel
theorem dX3_readSign_135 : decode cX3_readSign 135 = .ok (.getfield 40, 3) := by decide +kernel
theorem dX3_readSign_138 : decode cX3_readSign 138 = .ok (.iconst 1, 1) := by decide +kernel
theorem dX3_readSign_139 : decode cX3_readSign 139 = .ok (.iadd, 1) := by decide +kernel
theorem dX3_readSign_140 : decode cX3_readSign 140 = .ok (.putfield 40, 3) := by decide +kernel
theorem dX3_readSign_143 : decode cX3_readSign 143 = .ok (.goto 9, 3) := by decide +kernel
theorem dX3_readSign_146 : decode cX3_readSign 146 = .ok (.aload_n 0, 1) := by decide +kernel
theorem dX3_readSign_147 : decode cX3_readSign 147 = .ok (.bipush 29, 2) := by decide +kernel
theorem dX3_readSign_149 : decode cX3_readSign 149 = .ok (.putfield 49, 3) := by decide +kernel
theorem dX3_readSign_152 : decode cX3_readSign 152 = .ok (.return_, 1) := by decide +kernel
theorem dX4_init_0 : decode cX4_init 0 = .ok (.aload_n 0, 1) := by decide +kernel
theorem dX4_init_1 : decode cX4_init 1 = .ok (.invokespecial 3, 3) := by decide +kernel
theorem dX4_init_4 : decode cX4_init 4 = .ok (.aload_n 0, 1) := by decide +kernel
theorem dX4_init_5 : decode cX4_init 5 = .ok (.bipush 30, 2) := by decide +kernel
theorem dX4_init_7 : decode cX4_init 7 = .ok (.newarray .int, 2) := by decide +kernel
theorem dX4_init_9 : decode cX4_init 9 = .ok (.putfield 11, 3) := by decide +kernel
theorem dX4_init_12 : decode cX4_init 12 = .ok (.aload_n 0, 1) := by decide +kernel
theorem dX4_init_13 : decode cX4_init 13 = .ok (.bipush 30, 2) := by decide +kernel
theorem dX4_init_15 : decode cX4_init 15 = .ok (.newarray .int, 2) := by decide +kernel
theorem dX4_init_17 : decode cX4_init 17 = .ok (.putfield 15, 3) := by decide +kernel
theorem dX4_init_20 : decode cX4_init 20 = .ok (.aload_n 0, 1) := by decide +kernel
theorem dX4_init_21 : decode cX4_init 21 = .ok (.bipush 30, 2) := by decide +kernel
theorem dX4_init_23 : decode cX4_init 23 = .ok (.newarray .int, 2) := by decide +kernel
theorem dX4_init_25 : decode cX4_init 25 = .ok (.putfield 18, 3) := by decide +kernel
theorem dX4_init_28 : decode cX4_init 28 = .ok (.aload_n 0, 1) := by decide +kernel
theorem dX4_init_29 : decode cX4_init 29 = .ok (.bipush 30, 2) := by decide +kernel
theorem dX4_init_31 : decode cX4_init 31 = .ok (.newarray .int, 2) := by decide +kernel
theorem dX4_init_33 : decode cX4_init 33 = .ok (.putfield 21, 3) := by decide +kernel
theorem dX4_init_36 : decode cX4_init 36 = .ok (.aload_n 0, 1) := by decide +kernel
theorem dX4_init_37 : decode cX4_init 37 = .ok (.bipush 30, 2) := by decide +kernel
theorem dX4_init_39 : decode cX4_init 39 = .ok (.newarray .int, 2) := by decide +kernel
theorem dX4_init_41 : decode cX4_init 41 = .ok (.putfield 24, 3) := by decide +kernel
theorem dX4_init_44 : decode cX4_init 44 = .ok (.aload_n 0, 1) := by decide +kernel
theorem dX4_init_45 : decode cX4_init 45 = .ok (.aload_n 1, 1) := by decide +kernel
theorem dX4_init_46 : decode cX4_init 46 = .ok (.putfield 27, 3) := by decide +kernel
theorem dX4_init_49 : decode cX4_init 49 = .ok (.return_, 1) := by decide +kernel
theorem dX4_clear_0 : decode cX4_clear 0 = .ok (.aload_n 0, 1) := by decide +kernel
theorem dX4_clear_1 : decode cX4_clear 1 = .ok (.iconst 0, 1) := by decide +kernel
theorem dX4_clear_2 : decode cX4_clear 2 = .ok (.putfield 31, 3) := by decide +kernel
theorem dX4_clear_5 : decode cX4_clear 5 = .ok (.return_, 1) := by decide +kernel
theorem dX4_tell_0 : decode cX4_tell 0 = .ok (.aload_n 0, 1) := by decide +kernel
theorem dX4_tell_1 : decode cX4_tell 1 = .ok (.getfield 31, 3) := by decide +kernel
theorem dX4_tell_4 : decode cX4_tell 4 = .ok (.bipush 30, 2) := by decide +kernel
theorem dX4_tell_6 : decode cX4_tell 6 = .ok (.if_icmp .lt 5, 3) := by decide +kernel
theorem dX4_tell_9 : decode cX4_tell 9 = .ok (.iconst (-1), 1) := by decide +kernel
theorem dX4_tell_10 : decode cX4_tell 10 = .ok (.ireturn, 1) := by decide +kernel
theorem dX4_tell_11 : decode cX4_tell 11 = .ok (.aload_n 0, 1) := by decide +kernel
theorem dX4_tell_12 : decode cX4_tell 12 = .ok (.getfield 11, 3) := by decide +kernel
theorem dX4_tell_15 : decode cX4_tell 15 = .ok (.aload_n 0, 1) := by decide +kernel
theorem dX4_tell_16 : decode cX4_tell 16 = .ok (.getfield 31, 3) := by decide +kernel
theorem dX4_tell_19 : decode cX4_tell 19 = .ok (.iload_n 1, 1) := by decide +kernel
theorem dX4_tell_20 : decode cX4_tell 20 = .ok (.iastore, 1) := by decide +kernel
theorem dX4_tell_21 : decode cX4_tell 21 = .ok (.aload_n 0, 1) := by decide +kernel
theorem dX4_tell_22 : decode cX4_tell 22 = .ok (.getfield 15, 3) := by decide +kernel
theorem dX4_tell_25 : decode cX4_tell 25 = .ok (.aload_n 0, 1) := by decide +kernel
theorem dX4_tell_26 : decode cX4_tell 26 = .ok (.getfield 31, 3) := by decide +kernel
theorem dX4_tell_29 : decode cX4_tell 29 = .ok (.iload_n 2, 1) := by decide +kernel
theorem dX4_tell_30 : decode cX4_tell 30 = .ok (.iastore, 1) := by decide +kernel
theorem dX4_tell_31 : decode cX4_tell 31 = .ok (.aload_n 0, 1) := by decide +kernel
theorem dX4_tell_32 : decode cX4_tell 32 = .ok (.getfield 18, 3) := by decide +kernel
theorem dX4_tell_35 : decode cX4_tell 35 = .ok (.aload_n 0, 1) := by decide +kernel
theorem dX4_tell_36 : decode cX4_tell 36 = .ok (.getfield 31, 3) := by decide +kernel
theorem dX4_tell_39 : decode cX4_tell 39 = .ok (.iload_n 3, 1) := by decide +kernel
theorem dX4_tell_40 : decode cX4_tell 40 = .ok (.iastore, 1) := by decide +kernel
theorem dX4_tell_41 : decode cX4_tell 41 = .ok (.aload_n 0, 1) := by decide +kernel
theorem dX4_tell_42 : decode cX4_tell 42 = .ok (.getfield 21, 3) := by decide +kernel
theorem dX4_tell_45 : decode cX4_tell 45 = .ok (.aload_n 0, 1) := by decide +kernel
theorem dX4_tell_46 : decode cX4_tell 46 = .ok (.getfield 31, 3) := by decide +kernel
theorem dX4_tell_49 : decode cX4_tell 49 = .ok (.iload 4, 2) := by decide +kernel
theorem dX4_tell_51 : decode cX4_tell 51 = .ok (.iastore, 1) := by decide +kernel
theorem dX4_tell_52 : decode cX4_tell 52 = .ok (.aload_n 0, 1) := by decide +kernel
theorem dX4_tell_53 : decode cX4_tell 53 = .ok (.getfield 24, 3) := by decide +kernel
theorem dX4_tell_56 : decode cX4_tell 56 = .ok (.aload_n 0, 1) := by decide +kernel
theorem dX4_tell_57 : decode cX4_tell 57 = .ok (.getfield 31, 3) := by decide +kernel
theorem dX4_tell_60 : decode cX4_tell 60 = .ok (.iconst (-1), 1) := by decide +kernel
theorem dX4_tell_61 : decode cX4_tell 61 = .ok (.iastore, 1) := by decide +kernel
theorem dX4_tell_62 : decode cX4_tell 62 = .ok (.aload_n 0, 1) := by decide +kernel
theorem dX4_tell_63 : decode cX4_tell 63 = .ok (.dup, 1) := by decide +kernel
theorem dX4_tell_64 : decode cX4_tell 64 = .ok (.getfield 31, 3) := by decide +kernel
theorem dX4_tell_67 : decode cX4_tell 67 = .ok (.iconst 1, 1) := by decide +kernel
theorem dX4_tell_68 : decode cX4_tell 68 = .ok (.iadd, 1) := by decide +kernel
theorem dX4_tell_69 : decode cX4_tell 69 = .ok (.putfield 31, 3) := by decide +kernel
theorem dX4_tell_72 : decode cX4_tell 72 = .ok (.aload_n 0, 1) := by decide +kernel
theorem dX4_tell_73 : decode cX4_tell 73 = .ok (.getfield 31, 3) := by decide +kernel
theorem dX4_tell_76 : decode cX4_tell 76 = .ok (.iconst 1, 1) := by decide +kernel
theorem dX4_tell_77 : decode cX4_tell 77 = .ok (.isub, 1) := by decide +kernel
theorem dX4_tell_78 : decode cX4_tell 78 = .ok (.ireturn, 1) := by decide +kernel
theorem dX4_takeBack_0 : decode cX4_takeBack 0 = .ok (.iload_n 1, 1) := by decide +kernel
theorem dX4_takeBack_1 : decode cX4_takeBack 1 = .ok (.ifCond .lt 21, 3) := by decide +kernel
theorem dX4_takeBack_4 : decode cX4_takeBack 4 = .ok (.iload_n 1, 1) := by decide +kernel
theorem dX4_takeBack_5 : decode cX4_takeBack 5 = .ok (.aload_n 0, 1) := by decide +kernel
theorem dX4_takeBack_6 : decode cX4_takeBack 6 = .ok (.getfield 31, 3) := by decide +kernel
theorem dX4_takeBack_9 : decode cX4_takeBack 9 = .ok (.if_icmp .ge 13, 3) := by decide +kernel
theorem dX4_takeBack_12 : decode cX4_takeBack 12 = .ok (.aload_n 0, 1) := by decide +kernel
theorem dX4_takeBack_13 : decode cX4_takeBack 13 = .ok (.getfield 24, 3) := by decide +kernel
theorem dX4_takeBack_16 : decode cX4_takeBack 16 = .ok (.iload_n 1, 1) := by decide +kernel
theorem dX4_takeBack_17 : decode cX4_takeBack 17 = .ok (.iaload, 1) := by decide +kernel
theorem dX4_takeBack_18 : decode cX4_takeBack 18 = .ok (.iconst (-1), 1) := by decide +kernel
theorem dX4_takeBack_19 : decode cX4_takeBack 19 = .ok (.if_icmp .eq 5, 3) := by decide +kernel
theorem dX4_takeBack_22 : decode cX4_takeBack 22 = .ok (.iconst 0, 1) := by decide +kernel
theorem dX4_takeBack_23 : decode cX4_takeBack 23 = .ok (.ireturn, 1) := by decide +kernel
theorem dX4_takeBack_24 : decode cX4_takeBack 24 = .ok (.aload_n 0, 1) := by decide +kernel
theorem dX4_takeBack_25 : decode cX4_takeBack 25 = .ok (.getfield 24, 3) := by decide +kernel
theorem dX4_takeBack_28 : decode cX4_takeBack 28 = .ok (.iload_n 1, 1) := by decide +kernel
theorem dX4_takeBack_29 : decode cX4_takeBack 29 = .ok (.iload_n 2, 1) := by decide +kernel
theorem dX4_takeBack_30 : decode cX4_takeBack 30 = .ok (.iastore, 1) := by decide +kernel
theorem dX4_takeBack_31 : decode cX4_takeBack 31 = .ok (.iconst 1, 1) := by decide +kernel
theorem dX4_takeBack_32 : decode cX4_takeBack 32 = .ok (.ireturn, 1) := by decide +kernel
theorem dX4_isKnown_0 : decode cX4_isKnown 0 = .ok (.aload_n 0, 1) := by decide +kernel
theorem dX4_isKnown_1 : decode cX4_isKnown 1 = .ok (.getfield 21, 3) := by decide +kernel
theorem dX4_isKnown_4 : decode cX4_isKnown 4 = .ok (.iload_n 1, 1) := by decide +kernel
theorem dX4_isKnown_5 : decode cX4_isKnown 5 = .ok (.iaload, 1) := by decide +kernel
theorem dX4_isKnown_6 : decode cX4_isKnown 6 = .ok (.iload_n 2, 1) := by decide +kernel
theorem dX4_isKnown_7 : decode cX4_isKnown 7 = .ok (.if_icmp .gt 27, 3) := by decide +kernel
theorem dX4_isKnown_10 : decode cX4_isKnown 10 = .ok (.aload_n 0, 1) := by decide +kernel
theorem dX4_isKnown_11 : decode cX4_isKnown 11 = .ok (.getfield 24, 3) := by decide +kernel
theorem dX4_isKnown_14 : decode cX4_isKnown 14 = .ok (.iload_n 1, 1) := by decide +kernel
theorem dX4_isKnown_15 : decode cX4_isKnown 15 = .ok (.iaload, 1) := by decide +kernel
theorem dX4_isKnown_16 : decode cX4_isKnown 16 = .ok (.iconst (-1), 1) := by decide +kernel
theorem dX4_isKnown_17 : decode cX4_isKnown 17 = .ok (.if_icmp .eq 13, 3) := by decide +kernel
theorem dX4_isKnown_20 : decode cX4_isKnown 20 = .ok (.aload_n 0, 1) := by decide +kernel
theorem dX4_isKnown_21 : decode cX4_isKnown 21 = .ok (.getfield 24, 3) := by decide +kernel
theorem dX4_isKnown_24 : decode cX4_isKnown 24 = .ok (.iload_n 1, 1) := by decide +kernel
theorem dX4_isKnown_25 : decode cX4_isKnown 25 = .ok (.iaload, 1) := by decide +kernel
theorem dX4_isKnown_26 : decode cX4_isKnown 26 = .ok (.iload_n 2, 1) := by decide +kernel
theorem dX4_isKnown_27 : decode cX4_isKnown 27 = .ok (.if_icmp .le 7, 3) := by decide +kernel
theorem dX4_isKnown_30 : decode cX4_isKnown 30 = .ok (.iconst 1, 1) := by decide +kernel
theorem dX4_isKnown_31 : decode cX4_isKnown 31 = .ok (.goto 4, 3) := by decide +kernel
theorem dX4_isKnown_34 : decode cX4_isKnown 34 = .ok (.iconst 0, 1) := by decide +kernel
theorem dX4_isKnown_35 : decode cX4_isKnown 35 = .ok (.ireturn, 1) := by decide +kernel
theorem dX4_misfits_0 : decode cX4_misfits 0 = .ok (.iconst 0, 1) := by decide +kernel
theorem dX4_misfits_1 : decode cX4_misfits 1 = .ok (.istore_n 3, 1) := by decide +kernel
theorem dX4_misfits_2 : decode cX4_misfits 2 = .ok (.iconst 0, 1) := by decide +kernel
theorem dX4_misfits_3 : decode cX4_misfits 3 = .ok (.istore 4, 2) := by decide +kernel
theorem dX4_misfits_5 : decode cX4_misfits 5 = .ok (.iload 4, 2) := by decide +kernel
theorem dX4_misfits_7 : decode cX4_misfits 7 = .ok (.aload_n 0, 1) := by decide +kernel
theorem dX4_misfits_8 : decode cX4_misfits 8 = .ok (.getfield 31, 3) := by decide +kernel
theorem dX4_misfits_11 : decode cX4_misfits 11 = .ok (.if_icmp .ge 54, 3) := by decide +kernel
theorem dX4_misfits_14 : decode cX4_misfits 14 = .ok (.aload_n 0, 1) := by decide +kernel
theorem dX4_misfits_15 : decode cX4_misfits 15 = .ok (.iload 4, 2) := by decide +kernel
theorem dX4_misfits_17 : decode cX4_misfits 17 = .ok (.iload_n 2, 1) := by decide +kernel
theorem dX4_misfits_18 : decode cX4_misfits 18 = .ok (.invokevirtual 35, 3) := by decide +kernel
theorem dX4_misfits_21 : decode cX4_misfits 21 = .ok (.ifCond .eq 38, 3) := by decide +kernel
theorem dX4_misfits_24 : decode cX4_misfits 24 = .ok (.aload_n 0, 1) := by decide +kernel
theorem dX4_misfits_25 : decode cX4_misfits 25 = .ok (.getfield 27, 3) := by decide +kernel
theorem dX4_misfits_28 : decode cX4_misfits 28 = .ok (.iload_n 1, 1) := by decide +kernel
theorem dX4_misfits_29 : decode cX4_misfits 29 = .ok (.aload_n 0, 1) := by decide +kernel
theorem dX4_misfits_30 : decode cX4_misfits 30 = .ok (.getfield 11, 3) := by decide +kernel
theorem dX4_misfits_33 : decode cX4_misfits 33 = .ok (.iload 4, 2) := by decide +kernel
theorem dX4_misfits_35 : decode cX4_misfits 35 = .ok (.iaload, 1) := by decide +kernel
theorem dX4_misfits_36 : decode cX4_misfits 36 = .ok (.aload_n 0, 1) := by decide +kernel
theorem dX4_misfits_37 : decode cX4_misfits 37 = .ok (.getfield 15, 3) := by decide +kernel
theorem dX4_misfits_40 : decode cX4_misfits 40 = .ok (.iload 4, 2) := by decide +kernel
theorem dX4_misfits_42 : decode cX4_misfits 42 = .ok (.iaload, 1) := by decide +kernel
theorem dX4_misfits_43 : decode cX4_misfits 43 = .ok (.aload_n 0, 1) := by decide +kernel
theorem dX4_misfits_44 : decode cX4_misfits 44 = .ok (.getfield 18, 3) := by decide +kernel
theorem dX4_misfits_47 : decode cX4_misfits 47 = .ok (.iload 4, 2) := by decide +kernel
theorem dX4_misfits_49 : decode cX4_misfits 49 = .ok (.iaload, 1) := by decide +kernel
theorem dX4_misfits_50 : decode cX4_misfits 50 = .ok (.invokevirtual 39, 3) := by decide +kernel
theorem dX4_misfits_53 : decode cX4_misfits 53 = .ok (.ifCond .ne 6, 3) := by decide +kernel
theorem dX4_misfits_56 : decode cX4_misfits 56 = .ok (.iinc 3 1, 3) := by decide +kernel
theorem dX4_misfits_59 : decode cX4_misfits 59 = .ok (.iinc 4 1, 3) := by decide +kernel
theorem dX4_misfits_62 : decode cX4_misfits 62 = .ok (.goto (-57), 3) := by decide +kernel
theorem dX4_misfits_65 : decode cX4_misfits 65 = .ok (.iload_n 3, 1) := by decide +kernel
theorem dX4_misfits_66 : decode cX4_misfits 66 = .ok (.ireturn, 1) := by decide +kernel
theorem dX4_oneIn_0 : decode cX4_oneIn 0 = .ok (.lconst 1, 1) := by decide +kernel
theorem dX4_oneIn_1 : decode cX4_oneIn 1 = .ok (.lstore_n 2, 1) := by decide +kernel
theorem dX4_oneIn_2 : decode cX4_oneIn 2 = .ok (.iconst 0, 1) := by decide +kernel
theorem dX4_oneIn_3 : decode cX4_oneIn 3 = .ok (.istore 4, 2) := by decide +kernel
theorem dX4_oneIn_5 : decode cX4_oneIn 5 = .ok (.iload 4, 2) := by decide +kernel
theorem dX4_oneIn_7 : decode cX4_oneIn 7 = .ok (.aload_n 0, 1) := by decide +kernel
theorem dX4_oneIn_8 : decode cX4_oneIn 8 = .ok (.getfield 31, 3) := by decide +kernel
theorem dX4_oneIn_11 : decode cX4_oneIn 11 = .ok (.if_icmp .ge 39, 3) := by decide +kernel
theorem dX4_oneIn_14 : decode cX4_oneIn 14 = .ok (.aload_n 0, 1) := by decide +kernel
theorem dX4_oneIn_15 : decode cX4_oneIn 15 = .ok (.iload 4, 2) := by decide +kernel
theorem dX4_oneIn_17 : decode cX4_oneIn 17 = .ok (.iload_n 1, 1) := by decide +kernel
theorem dX4_oneIn_18 : decode cX4_oneIn 18 = .ok (.invokevirtual 35, 3) := by decide +kernel
theorem dX4_oneIn_21 : decode cX4_oneIn 21 = .ok (.ifCond .eq 23, 3) := by decide +kernel
theorem dX4_oneIn_24 : decode cX4_oneIn 24 = .ok (.ldc2_w 45, 3) := by decide +kernel
theorem dX4_oneIn_27 : decode cX4_oneIn 27 = .ok (.lload_n 2, 1) := by decide +kernel
theorem dX4_oneIn_28 : decode cX4_oneIn 28 = .ok (.aload_n 0, 1) := by decide +kernel
theorem dX4_oneIn_29 : decode cX4_oneIn 29 = .ok (.getfield 15, 3) := by decide +kernel
theorem dX4_oneIn_32 : decode cX4_oneIn 32 = .ok (.iload 4, 2) := by decide +kernel
theorem dX4_oneIn_34 : decode cX4_oneIn 34 = .ok (.iaload, 1) := by decide +kernel
theorem dX4_oneIn_35 : decode cX4_oneIn 35 = .ok (.invokestatic 47, 3) := by decide +kernel
theorem dX4_oneIn_38 : decode cX4_oneIn 38 = .ok (.i2l, 1) := by decide +kernel
theorem dX4_oneIn_39 : decode cX4_oneIn 39 = .ok (.lmul, 1) := by decide +kernel
theorem dX4_oneIn_40 : decode cX4_oneIn 40 = .ok (.invokestatic 53, 3) := by decide +kernel
theorem dX4_oneIn_43 : decode cX4_oneIn 43 = .ok (.lstore_n 2, 1) := by decide +kernel
theorem dX4_oneIn_44 : decode cX4_oneIn 44 = .ok (.iinc 4 1, 3) := by decide +kernel
theorem dX4_oneIn_47 : decode cX4_oneIn 47 = .ok (.goto (-42), 3) := by decide +kernel
theorem dX4_oneIn_50 : decode cX4_oneIn 50 = .ok (.lload_n 2, 1) := by decide +kernel
theorem dX4_oneIn_51 : decode cX4_oneIn 51 = .ok (.lreturn, 1) := by decide +kernel
theorem dX5_init_0 : decode cX5_init 0 = .ok (.aload_n 0, 1) := by decide +kernel
theorem dX5_init_1 : decode cX5_init 1 = .ok (.invokespecial 3, 3) := by decide +kernel
theorem dX5_init_4 : decode cX5_init 4 = .ok (.aload_n 0, 1) := by decide +kernel
theorem dX5_init_5 : decode cX5_init 5 = .ok (.new 9, 3) := by decide +kernel
theorem dX5_init_8 : decode cX5_init 8 = .ok (.dup, 1) := by decide +kernel
theorem dX5_init_9 : decode cX5_init 9 = .ok (.invokespecial 11, 3) := by decide +kernel
theorem dX5_init_12 : decode cX5_init 12 = .ok (.putfield 12, 3) := by decide +kernel
theorem dX5_init_15 : decode cX5_init 15 = .ok (.aload_n 0, 1) := by decide +kernel
theorem dX5_init_16 : decode cX5_init 16 = .ok (.bipush 6, 2) := by decide +kernel
theorem dX5_init_18 : decode cX5_init 18 = .ok (.newarray .long, 2) := by decide +kernel
theorem dX5_init_20 : decode cX5_init 20 = .ok (.putfield 18, 3) := by decide +kernel
theorem dX5_init_23 : decode cX5_init 23 = .ok (.aload_n 0, 1) := by decide +kernel
theorem dX5_init_24 : decode cX5_init 24 = .ok (.bipush 10, 2) := by decide +kernel
theorem dX5_init_26 : decode cX5_init 26 = .ok (.newarray .long, 2) := by decide +kernel
theorem dX5_init_28 : decode cX5_init 28 = .ok (.putfield 22, 3) := by decide +kernel
theorem dX5_init_31 : decode cX5_init 31 = .ok (.aload_n 0, 1) := by decide +kernel
theorem dX5_init_32 : decode cX5_init 32 = .ok (.iconst 4, 1) := by decide +kernel
theorem dX5_init_33 : decode cX5_init 33 = .ok (.newarray .long, 2) := by decide +kernel
theorem dX5_init_35 : decode cX5_init 35 = .ok (.putfield 25, 3) := by decide +kernel
theorem dX5_init_38 : decode cX5_init 38 = .ok (.aload_n 0, 1) := by decide +kernel
theorem dX5_init_39 : decode cX5_init 39 = .ok (.iconst (-1), 1) := by decide +kernel
theorem dX5_init_40 : decode cX5_init 40 = .ok (.putfield 28, 3) := by decide +kernel
theorem dX5_init_43 : decode cX5_init 43 = .ok (.aload_n 0, 1) := by decide +kernel
theorem dX5_init_44 : decode cX5_init 44 = .ok (.aload_n 1, 1) := by decide +kernel
theorem dX5_init_45 : decode cX5_init 45 = .ok (.putfield 32, 3) := by decide +kernel
theorem dX5_init_48 : decode cX5_init 48 = .ok (.return_, 1) := by decide +kernel
theorem dX5_read_0 : decode cX5_read 0 = .ok (.aload_n 0, 1) := by decide +kernel
theorem dX5_read_1 : decode cX5_read 1 = .ok (.aload_n 3, 1) := by decide +kernel
theorem dX5_read_2 : decode cX5_read 2 = .ok (.putfield 32, 3) := by decide +kernel
theorem dX5_read_5 : decode cX5_read 5 = .ok (.aload_n 0, 1) := by decide +kernel
theorem dX5_read_6 : decode cX5_read 6 = .ok (.getfield 32, 3) := by decide +kernel
theorem dX5_read_9 : decode cX5_read 9 = .ok (.invokevirtual 36, 3) := by decide +kernel
theorem dX5_read_12 : decode cX5_read 12 = .ok (.aload_n 0, 1) := by decide +kernel
theorem dX5_read_13 : decode cX5_read 13 = .ok (.iconst 0, 1) := by decide +kernel
theorem dX5_read_14 : decode cX5_read 14 = .ok (.putfield 41, 3) := by decide +kernel
theorem dX5_read_17 : decode cX5_read 17 = .ok (.aload_n 0, 1) := by decide +kernel
theorem dX5_read_18 : decode cX5_read 18 = .ok (.iconst 0, 1) := by decide +kernel
theorem dX5_read_19 : decode cX5_read 19 = .ok (.putfield 45, 3) := by decide +kernel
theorem dX5_read_22 : decode cX5_read 22 = .ok (.aload_n 0, 1) := by decide +kernel
theorem dX5_read_23 : decode cX5_read 23 = .ok (.iconst 0, 1) := by decide +kernel
theorem dX5_read_24 : decode cX5_read 24 = .ok (.putfield 48, 3) := by decide +kernel
theorem dX5_read_27 : decode cX5_read 27 = .ok (.aload_n 0, 1) := by decide +kernel
theorem dX5_read_28 : decode cX5_read 28 = .ok (.iconst (-1), 1) := by decide +kernel
theorem dX5_read_29 : decode cX5_read 29 = .ok (.putfield 28, 3) := by decide +kernel
theorem dX5_read_32 : decode cX5_read 32 = .ok (.aload_n 0, 1) := by decide +kernel
theorem dX5_read_33 : decode cX5_read 33 = .ok (.getfield 12, 3) := by decide +kernel
theorem dX5_read_36 : decode cX5_read 36 = .ok (.aload_n 1, 1) := by decide +kernel
theorem dX5_read_37 : decode cX5_read 37 = .ok (.iload_n 2, 1) := by decide +kernel
theorem dX5_read_38 : decode cX5_read 38 = .ok (.invokevirtual 51, 3) := by decide +kernel
theorem dX5_read_41 : decode cX5_read 41 = .ok (.iconst 1, 1) := by decide +kernel
theorem dX5_read_42 : decode cX5_read 42 = .ok (.istore 4, 2) := by decide +kernel
theorem dX5_read_44 : decode cX5_read 44 = .ok (.iconst 0, 1) := by decide +kernel
theorem dX5_read_45 : decode cX5_read 45 = .ok (.istore 5, 2) := by decide +kernel
theorem dX5_read_47 : decode cX5_read 47 = .ok (.iload 5, 2) := by decide +kernel
theorem dX5_read_49 : decode cX5_read 49 = .ok (.sipush 1600, 3) := by decide +kernel
theorem dX5_read_52 : decode cX5_read 52 = .ok (.if_icmp .ge 32, 3) := by decide +kernel
theorem dX5_read_55 : decode cX5_read 55 = .ok (.iload 4, 2) := by decide +kernel
theorem dX5_read_57 : decode cX5_read 57 = .ok (.ifCond .eq 27, 3) := by decide +kernel
theorem dX5_read_60 : decode cX5_read 60 = .ok (.aload_n 0, 1) := by decide +kernel
theorem dX5_read_61 : decode cX5_read 61 = .ok (.getfield 12, 3) := by decide +kernel
theorem dX5_read_64 : decode cX5_read 64 = .ok (.getfield 55, 3) := by decide +kernel
theorem dX5_read_67 : decode cX5_read 67 = .ok (.bipush 28, 2) := by decide +kernel
theorem dX5_read_69 : decode cX5_read 69 = .ok (.if_icmp .eq 15, 3) := by decide +kernel
theorem dX5_read_72 : decode cX5_read 72 = .ok (.aload_n 0, 1) := by decide +kernel
theorem dX5_read_73 : decode cX5_read 73 = .ok (.invokevirtual 58, 3) := by decide +kernel
theorem dX5_read_76 : decode cX5_read 76 = .ok (.istore 4, 2) := by decide +kernel
theorem dX5_read_78 : decode cX5_read 78 = .ok (.iinc 5 1, 3) := by decide +kernel
theorem dX5_read_81 : decode cX5_read 81 = .ok (.goto (-34), 3) := by decide +kernel
theorem dX5_read_84 : decode cX5_read 84 = .ok (.iload 4, 2) := by decide +kernel
theorem dX5_read_86 : decode cX5_read 86 = .ok (.ireturn, 1) := by decide +kernel
theorem dX5_fail_0 : decode cX5_fail 0 = .ok (.aload_n 0, 1) := by decide +kernel
theorem dX5_fail_1 : decode cX5_fail 1 = .ok (.aload_n 0, 1) := by decide +kernel
theorem dX5_fail_2 : decode cX5_fail 2 = .ok (.getfield 12, 3) := by decide +kernel
theorem dX5_fail_5 : decode cX5_fail 5 = .ok (.getfield 55, 3) := by decide +kernel
theorem dX5_fail_8 : decode cX5_fail 8 = .ok (.bipush 29, 2) := by decide +kernel
theorem dX5_fail_10 : decode cX5_fail 10 = .ok (.if_icmp .ne 7, 3) := by decide +kernel
theorem dX5_fail_13 : decode cX5_fail 13 = .ok (.iconst 1, 1) := by decide +kernel
theorem dX5_fail_14 : decode cX5_fail 14 = .ok (.goto 4, 3) := by decide +kernel
theorem dX5_fail_17 : decode cX5_fail 17 = .ok (.iload_n 1, 1) := by decide +kernel
theorem dX5_fail_18 : decode cX5_fail 18 = .ok (.putfield 48, 3) := by decide +kernel
theorem dX5_fail_21 : decode cX5_fail 21 = .ok (.aload_n 0, 1) := by decide +kernel
theorem dX5_fail_22 : decode cX5_fail 22 = .ok (.aload_n 0, 1) := by decide +kernel
theorem dX5_fail_23 : decode cX5_fail 23 = .ok (.getfield 12, 3) := by decide +kernel
theorem dX5_fail_26 : decode cX5_fail 26 = .ok (.getfield 62, 3) := by decide +kernel
theorem dX5_fail_29 : decode cX5_fail 29 = .ok (.putfield 28, 3) := by decide +kernel
theorem dX5_fail_32 : decode cX5_fail 32 = .ok (.iconst 0, 1) := by decide +kernel
theorem dX5_fail_33 : decode cX5_fail 33 = .ok (.ireturn, 1) := by decide +kernel
theorem dX5_line_0 : decode cX5_line 0 = .ok (.aload_n 0, 1) := by decide +kernel
theorem dX5_line_1 : decode cX5_line 1 = .ok (.getfield 12, 3) := by decide +kernel
theorem dX5_line_4 : decode cX5_line 4 = .ok (.getfield 55, 3) := by decide +kernel
theorem dX5_line_7 : decode cX5_line 7 = .ok (.ifCond .ne 7, 3) := by decide +kernel
theorem dX5_line_10 : decode cX5_line 10 = .ok (.iconst 1, 1) := by decide +kernel
theorem dX5_line_11 : decode cX5_line 11 = .ok (.goto 4, 3) := by decide +kernel
theorem dX5_line_14 : decode cX5_line 14 = .ok (.iconst 0, 1) := by decide +kernel
theorem dX5_line_15 : decode cX5_line 15 = .ok (.istore_n 1, 1) := by decide +kernel
theorem dX5_line_16 : decode cX5_line 16 = .ok (.aload_n 0, 1) := by decide +kernel
theorem dX5_line_17 : decode cX5_line 17 = .ok (.getfield 32, 3) := by decide +kernel
theorem dX5_line_20 : decode cX5_line 20 = .ok (.getfield 63, 3) := by decide +kernel
theorem dX5_line_23 : decode cX5_line 23 = .ok (.ifCond .le 7, 3) := by decide +kernel
theorem dX5_line_26 : decode cX5_line 26 = .ok (.iconst 1, 1) := by decide +kernel
theorem dX5_line_27 : decode cX5_line 27 = .ok (.goto 4, 3) := by decide +kernel
theorem dX5_line_30 : decode cX5_line 30 = .ok (.iconst 0, 1) := by decide +kernel
theorem dX5_line_31 : decode cX5_line 31 = .ok (.istore_n 2, 1) := by decide +kernel
theorem dX5_line_32 : decode cX5_line 32 = .ok (.iload_n 1, 1) := by decide +kernel
theorem dX5_line_33 : decode cX5_line 33 = .ok (.iload_n 2, 1) := by decide +kernel
theorem dX5_line_34 : decode cX5_line 34 = .ok (.if_icmp .ne 9, 3) := by decide +kernel
theorem dX5_line_37 : decode cX5_line 37 = .ok (.aload_n 0, 1) := by decide +kernel
theorem dX5_line_38 : decode cX5_line 38 = .ok (.iconst 2, 1) := by decide +kernel
theorem dX5_line_39 : decode cX5_line 39 = .ok (.invokevirtual 66, 3) := by decide +kernel
theorem dX5_line_42 : decode cX5_line 42 = .ok (.ireturn, 1) := by decide +kernel
theorem dX5_line_43 : decode cX5_line 43 = .ok (.aload_n 0, 1) := by decide +kernel
theorem dX5_line_44 : decode cX5_line 44 = .ok (.getfield 12, 3) := by decide +kernel
theorem dX5_line_47 : decode cX5_line 47 = .ok (.getfield 55, 3) := by decide +kernel
theorem dX5_line_50 : decode cX5_line 50 = .ok (.tableswitch 248 0 19 #[94, 248, 116, 248, 248, 248, 248, 248, 138, 160, 248, 248, 248, 248, 182, 248, 248, 248, 204, 226], 94) := by decide +kernel
theorem dX5_line_144 : decode cX5_line 144 = .ok (.aload_n 0, 1) := by decide +kernel
theorem dX5_line_145 : decode cX5_line 145 = .ok (.invokevirtual 70, 3) := by decide +kernel
theorem dX5_line_148 : decode cX5_line 148 = .ok (.ifCond .eq 16, 3) := by decide +kernel
theorem dX5_line_151 : decode cX5_line 151 = .ok (.aload_n 0, 1) := by decide +kernel
theorem dX5_line_152 : decode cX5_line 152 = .ok (.bipush 59, 2) := by decide +kernel
theorem dX5_line_154 : decode cX5_line 154 = .ok (.invokevirtual 73, 3) := by decide +kernel
theorem dX5_line_157 : decode cX5_line 157 = .ok (.ifCond .eq 7, 3) := by decide +kernel
theorem dX5_line_160 : decode cX5_line 160 = .ok (.iconst 1, 1) := by decide +kernel
theorem dX5_line_161 : decode cX5_line 161 = .ok (.goto 4, 3) := by decide +kernel
theorem dX5_line_164 : decode cX5_line 164 = .ok (.iconst 0, 1) := by decide +kernel
theorem dX5_line_165 : decode cX5_line 165 = .ok (.ireturn, 1) := by decide +kernel
theorem dX5_line_166 : decode cX5_line 166 = .ok (.aload_n 0, 1) := by decide +kernel
theorem dX5_line_167 : decode cX5_line 167 = .ok (.invokevirtual 76, 3) := by decide +kernel
theorem dX5_line_170 : decode cX5_line 170 = .ok (.ifCond .eq 16, 3) := by decide +kernel
theorem dX5_line_173 : decode cX5_line 173 = .ok (.aload_n 0, 1) := by decide +kernel
theorem dX5_line_174 : decode cX5_line 174 = .ok (.bipush 59, 2) := by decide +kernel
theorem dX5_line_176 : decode cX5_line 176 = .ok (.invokevirtual 73, 3) := by decide +kernel
theorem dX5_line_179 : decode cX5_line 179 = .ok (.ifCond .eq 7, 3) := by decide +kernel
theorem dX5_line_182 : decode cX5_line 182 = .ok (.iconst 1, 1) := by decide +kernel
theorem dX5_line_183 : decode cX5_line 183 = .ok (.goto 4, 3) := by decide +kernel
theorem dX5_line_186 : decode cX5_line 186 = .ok (.iconst 0, 1) := by decide +kernel
theorem dX5_line_187 : decode cX5_line 187 = .ok (.ireturn, 1) := by decide +kernel
theorem dX5_line_188 : decode cX5_line 188 = .ok (.aload_n 0, 1) := by decide +kernel
theorem dX5_line_189 : decode cX5_line 189 = .ok (.invokevirtual 79, 3) := by decide +kernel
theorem dX5_line_192 : decode cX5_line 192 = .ok (.ifCond .eq 16, 3) := by decide +kernel
theorem dX5_line_195 : decode cX5_line 195 = .ok (.aload_n 0, 1) := by decide +kernel
theorem dX5_line_196 : decode cX5_line 196 = .ok (.bipush 59, 2) := by decide +kernel
theorem dX5_line_198 : decode cX5_line 198 = .ok (.invokevirtual 73, 3) := by decide +kernel
theorem dX5_line_201 : decode cX5_line 201 = .ok (.ifCond .eq 7, 3) := by decide +kernel
theorem dX5_line_204 : decode cX5_line 204 = .ok (.iconst 1, 1) := by decide +kernel
theorem dX5_line_205 : decode cX5_line 205 = .ok (.goto 4, 3) := by decide +kernel
theorem dX5_line_208 : decode cX5_line 208 = .ok (.iconst 0, 1) := by decide +kernel
theorem dX5_line_209 : decode cX5_line 209 = .ok (.ireturn, 1) := by decide +kernel
theorem dX5_line_210 : decode cX5_line 210 = .ok (.aload_n 0, 1) := by decide +kernel
theorem dX5_line_211 : decode cX5_line 211 = .ok (.invokevirtual 82, 3) := by decide +kernel
theorem dX5_line_214 : decode cX5_line 214 = .ok (.ifCond .eq 16, 3) := by decide +kernel
theorem dX5_line_217 : decode cX5_line 217 = .ok (.aload_n 0, 1) := by decide +kernel
theorem dX5_line_218 : decode cX5_line 218 = .ok (.bipush 59, 2) := by decide +kernel
theorem dX5_line_220 : decode cX5_line 220 = .ok (.invokevirtual 73, 3) := by decide +kernel
theorem dX5_line_223 : decode cX5_line 223 = .ok (.ifCond .eq 7, 3) := by decide +kernel
theorem dX5_line_226 : decode cX5_line 226 = .ok (.iconst 1, 1) := by decide +kernel
theorem dX5_line_227 : decode cX5_line 227 = .ok (.goto 4, 3) := by decide +kernel
theorem dX5_line_230 : decode cX5_line 230 = .ok (.iconst 0, 1) := by decide +kernel
theorem dX5_line_231 : decode cX5_line 231 = .ok (.ireturn, 1) := by decide +kernel
theorem dX5_line_232 : decode cX5_line 232 = .ok (.aload_n 0, 1) := by decide +kernel
theorem dX5_line_233 : decode cX5_line 233 = .ok (.invokevirtual 85, 3) := by decide +kernel
theorem dX5_line_236 : decode cX5_line 236 = .ok (.ifCond .eq 16, 3) := by decide +kernel
theorem dX5_line_239 : decode cX5_line 239 = .ok (.aload_n 0, 1) := by decide +kernel
theorem dX5_line_240 : decode cX5_line 240 = .ok (.bipush 59, 2) := by decide +kernel
theorem dX5_line_242 : decode cX5_line 242 = .ok (.invokevirtual 73, 3) := by decide +kernel
theorem dX5_line_245 : decode cX5_line 245 = .ok (.ifCond .eq 7, 3) := by decide +kernel
theorem dX5_line_248 : decode cX5_line 248 = .ok (.iconst 1, 1) := by decide +kernel
theorem dX5_line_249 : decode cX5_line 249 = .ok (.goto 4, 3) := by decide +kernel
theorem dX5_line_252 : decode cX5_line 252 = .ok (.iconst 0, 1) := by decide +kernel
theorem dX5_line_253 : decode cX5_line 253 = .ok (.ireturn, 1) := by decide +kernel
theorem dX5_line_254 : decode cX5_line 254 = .ok (.aload_n 0, 1) := by decide +kernel
theorem dX5_line_255 : decode cX5_line 255 = .ok (.invokevirtual 88, 3) := by decide +kernel
theorem dX5_line_258 : decode cX5_line 258 = .ok (.ifCond .eq 16, 3) := by decide +kernel
theorem dX5_line_261 : decode cX5_line 261 = .ok (.aload_n 0, 1) := by decide +kernel
theorem dX5_line_262 : decode cX5_line 262 = .ok (.bipush 59, 2) := by decide +kernel
theorem dX5_line_264 : decode cX5_line 264 = .ok (.invokevirtual 73, 3) := by decide +kernel
theorem dX5_line_267 : decode cX5_line 267 = .ok (.ifCond .eq 7, 3) := by decide +kernel
theorem dX5_line_270 : decode cX5_line 270 = .ok (.iconst 1, 1) := by decide +kernel
theorem dX5_line_271 : decode cX5_line 271 = .ok (.goto 4, 3) := by decide +kernel
theorem dX5_line_274 : decode cX5_line 274 = .ok (.iconst 0, 1) := by decide +kernel
theorem dX5_line_275 : decode cX5_line 275 = .ok (.ireturn, 1) := by decide +kernel
theorem dX5_line_276 : decode cX5_line 276 = .ok (.aload_n 0, 1) := by decide +kernel
theorem dX5_line_277 : decode cX5_line 277 = .ok (.invokevirtual 91, 3) := by decide +kernel
theorem dX5_line_280 : decode cX5_line 280 = .ok (.ifCond .eq 16, 3) := by decide +kernel
theorem dX5_line_283 : decode cX5_line 283 = .ok (.aload_n 0, 1) := by decide +kernel
theorem dX5_line_284 : decode cX5_line 284 = .ok (.bipush 59, 2) := by decide +kernel
theorem dX5_line_286 : decode cX5_line 286 = .ok (.invokevirtual 73, 3) := by decide +kernel
theorem dX5_line_289 : decode cX5_line 289 = .ok (.ifCond .eq 7, 3) := by decide +kernel
theorem dX5_line_292 : decode cX5_line 292 = .ok (.iconst 1, 1) := by decide +kernel
theorem dX5_line_293 : decode cX5_line 293 = .ok (.goto 4, 3) := by decide +kernel
theorem dX5_line_296 : decode cX5_line 296 = .ok (.iconst 0, 1) := by decide +kernel
theorem dX5_line_297 : decode cX5_line 297 = .ok (.ireturn, 1) := by decide +kernel
theorem dX5_line_298 : decode cX5_line 298 = .ok (.aload_n 0, 1) := by decide +kernel
theorem dX5_line_299 : decode cX5_line 299 = .ok (.iconst 2, 1) := by decide +kernel
theorem dX5_line_300 : decode cX5_line 300 = .ok (.invokevirtual 66, 3) := by decide +kernel
theorem dX5_line_303 : decode cX5_line 303 = .ok (.ireturn, 1) := by decide +kernel
theorem dX5_token_0 : decode cX5_token 0 = .ok (.aload_n 0, 1) := by decide +kernel
theorem dX5_token_1 : decode cX5_token 1 = .ok (.getfield 12, 3) := by decide +kernel
theorem dX5_token_4 : decode cX5_token 4 = .ok (.getfield 55, 3) := by decide +kernel
theorem dX5_token_7 : decode cX5_token 7 = .ok (.iload_n 1, 1) := by decide +kernel
theorem dX5_token_8 : decode cX5_token 8 = .ok (.if_icmp .eq 9, 3) := by decide +kernel
theorem dX5_token_11 : decode cX5_token 11 = .ok (.aload_n 0, 1) := by decide +kernel
theorem dX5_token_12 : decode cX5_token 12 = .ok (.iconst 2, 1) := by decide +kernel
theorem dX5_token_13 : decode cX5_token 13 = .ok (.invokevirtual 66, 3) := by decide +kernel
theorem dX5_token_16 : decode cX5_token 16 = .ok (.ireturn, 1) := by decide +kernel
theorem dX5_token_17 : decode cX5_token 17 = .ok (.aload_n 0, 1) := by decide +kernel
theorem dX5_token_18 : decode cX5_token 18 = .ok (.getfield 12, 3) := by decide +kernel
theorem dX5_token_21 : decode cX5_token 21 = .ok (.invokevirtual 94, 3) := by decide +kernel
theorem dX5_token_24 : decode cX5_token 24 = .ok (.iconst 1, 1) := by decide +kernel
theorem dX5_token_25 : decode cX5_token 25 = .ok (.ireturn, 1) := by decide +kernel
theorem dX5_optional_0 : decode cX5_optional 0 = .ok (.aload_n 0, 1) := by decide +kernel
theorem dX5_optional_1 : decode cX5_optional 1 = .ok (.getfield 12, 3) := by decide +kernel
theorem dX5_optional_4 : decode cX5_optional 4 = .ok (.getfield 55, 3) := by decide +kernel
theorem dX5_optional_7 : decode cX5_optional 7 = .ok (.iload_n 1, 1) := by decide +kernel
theorem dX5_optional_8 : decode cX5_optional 8 = .ok (.if_icmp .eq 5, 3) := by decide +kernel
theorem dX5_optional_11 : decode cX5_optional 11 = .ok (.iconst 0, 1) := by decide +kernel
theorem dX5_optional_12 : decode cX5_optional 12 = .ok (.ireturn, 1) := by decide +kernel
theorem dX5_optional_13 : decode cX5_optional 13 = .ok (.aload_n 0, 1) := by decide +kernel
theorem dX5_optional_14 : decode cX5_optional 14 = .ok (.getfield 12, 3) := by decide +kernel
theorem dX5_optional_17 : decode cX5_optional 17 = .ok (.invokevirtual 94, 3) := by decide +kernel
theorem dX5_optional_20 : decode cX5_optional 20 = .ok (.iconst 1, 1) := by decide +kernel
theorem dX5_optional_21 : decode cX5_optional 21 = .ok (.ireturn, 1) := by decide +kernel
theorem dX5_number_0 : decode cX5_number 0 = .ok (.aload_n 0, 1) := by decide +kernel
theorem dX5_number_1 : decode cX5_number 1 = .ok (.getfield 12, 3) := by decide +kernel
theorem dX5_number_4 : decode cX5_number 4 = .ok (.getfield 55, 3) := by decide +kernel
theorem dX5_number_7 : decode cX5_number 7 = .ok (.bipush 27, 2) := by decide +kernel
theorem dX5_number_9 : decode cX5_number 9 = .ok (.if_icmp .eq 11, 3) := by decide +kernel
theorem dX5_number_12 : decode cX5_number 12 = .ok (.aload_n 0, 1) := by decide +kernel
theorem dX5_number_13 : decode cX5_number 13 = .ok (.iconst 2, 1) := by decide +kernel
theorem dX5_number_14 : decode cX5_number 14 = .ok (.invokevirtual 66, 3) := by decide +kernel
theorem dX5_number_17 : decode cX5_number 17 = .ok (.pop, 1) := by decide +kernel
theorem dX5_number_18 : decode cX5_number 18 = .ok (.iconst (-1), 1) := by decide +kernel
theorem dX5_number_19 : decode cX5_number 19 = .ok (.ireturn, 1) := by decide +kernel
theorem dX5_number_20 : decode cX5_number 20 = .ok (.aload_n 0, 1) := by decide +kernel
theorem dX5_number_21 : decode cX5_number 21 = .ok (.getfield 12, 3) := by decide +kernel
theorem dX5_number_24 : decode cX5_number 24 = .ok (.getfield 97, 3) := by decide +kernel
theorem dX5_number_27 : decode cX5_number 27 = .ok (.istore_n 3, 1) := by decide +kernel
theorem dX5_number_28 : decode cX5_number 28 = .ok (.iload_n 3, 1) := by decide +kernel
theorem dX5_number_29 : decode cX5_number 29 = .ok (.iload_n 1, 1) := by decide +kernel
theorem dX5_number_30 : decode cX5_number 30 = .ok (.if_icmp .lt 8, 3) := by decide +kernel
theorem dX5_number_33 : decode cX5_number 33 = .ok (.iload_n 3, 1) := by decide +kernel
theorem dX5_number_34 : decode cX5_number 34 = .ok (.iload_n 2, 1) := by decide +kernel
theorem dX5_number_35 : decode cX5_number 35 = .ok (.if_icmp .le 11, 3) := by decide +kernel
theorem dX5_number_38 : decode cX5_number 38 = .ok (.aload_n 0, 1) := by decide +kernel
theorem dX5_number_39 : decode cX5_number 39 = .ok (.iconst 4, 1) := by decide +kernel
theorem dX5_number_40 : decode cX5_number 40 = .ok (.invokevirtual 66, 3) := by decide +kernel
theorem dX5_number_43 : decode cX5_number 43 = .ok (.pop, 1) := by decide +kernel
theorem dX5_number_44 : decode cX5_number 44 = .ok (.iconst (-1), 1) := by decide +kernel
theorem dX5_number_45 : decode cX5_number 45 = .ok (.ireturn, 1) := by decide +kernel
theorem dX5_number_46 : decode cX5_number 46 = .ok (.aload_n 0, 1) := by decide +kernel
theorem dX5_number_47 : decode cX5_number 47 = .ok (.getfield 12, 3) := by decide +kernel
theorem dX5_number_50 : decode cX5_number 50 = .ok (.invokevirtual 94, 3) := by decide +kernel
theorem dX5_number_53 : decode cX5_number 53 = .ok (.iload_n 3, 1) := by decide +kernel
theorem dX5_number_54 : decode cX5_number 54 = .ok (.ireturn, 1) := by decide +kernel
theorem dX5_numberBehind_0 : decode cX5_numberBehind 0 = .ok (.aload_n 0, 1) := by decide +kernel
theorem dX5_numberBehind_1 : decode cX5_numberBehind 1 = .ok (.iload_n 1, 1) := by decide +kernel
theorem dX5_numberBehind_2 : decode cX5_numberBehind 2 = .ok (.invokevirtual 73, 3) := by decide +kernel
theorem dX5_numberBehind_5 : decode cX5_numberBehind 5 = .ok (.ifCond .eq 12, 3) := by decide +kernel
theorem dX5_numberBehind_8 : decode cX5_numberBehind 8 = .ok (.aload_n 0, 1) := by decide +kernel
theorem dX5_numberBehind_9 : decode cX5_numberBehind 9 = .ok (.iload_n 2, 1) := by decide +kernel
theorem dX5_numberBehind_10 : decode cX5_numberBehind 10 = .ok (.iload_n 3, 1) := by decide +kernel
theorem dX5_numberBehind_11 : decode cX5_numberBehind 11 = .ok (.invokevirtual 100, 3) := by decide +kernel
theorem dX5_numberBehind_14 : decode cX5_numberBehind 14 = .ok (.goto 4, 3) := by decide +kernel
theorem dX5_numberBehind_17 : decode cX5_numberBehind 17 = .ok (.iconst (-1), 1) := by decide +kernel
theorem dX5_numberBehind_18 : decode cX5_numberBehind 18 = .ok (.ireturn, 1) := by decide +kernel
theorem dX5_newName_0 : decode cX5_newName 0 = .ok (.aload_n 0, 1) := by decide +kernel
theorem dX5_newName_1 : decode cX5_newName 1 = .ok (.getfield 12, 3) := by decide +kernel
theorem dX5_newName_4 : decode cX5_newName 4 = .ok (.getfield 55, 3) := by decide +kernel
theorem dX5_newName_7 : decode cX5_newName 7 = .ok (.bipush 26, 2) := by decide +kernel
theorem dX5_newName_9 : decode cX5_newName 9 = .ok (.if_icmp .ne 9, 3) := by decide +kernel
theorem dX5_newName_12 : decode cX5_newName 12 = .ok (.iload_n 2, 1) := by decide +kernel
theorem dX5_newName_13 : decode cX5_newName 13 = .ok (.aload_n 1, 1) := by decide +kernel
theorem dX5_newName_14 : decode cX5_newName 14 = .ok (.arraylength, 1) := by decide +kernel
theorem dX5_newName_15 : decode cX5_newName 15 = .ok (.if_icmp .lt 9, 3) := by decide +kernel
theorem dX5_newName_18 : decode cX5_newName 18 = .ok (.aload_n 0, 1) := by decide +kernel
theorem dX5_newName_19 : decode cX5_newName 19 = .ok (.iconst 2, 1) := by decide +kernel
theorem dX5_newName_20 : decode cX5_newName 20 = .ok (.invokevirtual 66, 3) := by decide +kernel
theorem dX5_newName_23 : decode cX5_newName 23 = .ok (.ireturn, 1) := by decide +kernel
theorem dX5_newName_24 : decode cX5_newName 24 = .ok (.aload_n 0, 1) := by decide +kernel
theorem dX5_newName_25 : decode cX5_newName 25 = .ok (.aload_n 1, 1) := by decide +kernel
theorem dX5_newName_26 : decode cX5_newName 26 = .ok (.iload_n 2, 1) := by decide +kernel
theorem dX5_newName_27 : decode cX5_newName 27 = .ok (.invokevirtual 103, 3) := by decide +kernel
theorem dX5_newName_30 : decode cX5_newName 30 = .ok (.iconst (-1), 1) := by decide +kernel
theorem dX5_newName_31 : decode cX5_newName 31 = .ok (.if_icmp .eq 9, 3) := by decide +kernel
theorem dX5_newName_34 : decode cX5_newName 34 = .ok (.aload_n 0, 1) := by decide +kernel
theorem dX5_newName_35 : decode cX5_newName 35 = .ok (.iconst 3, 1) := by decide +kernel
theorem dX5_newName_36 : decode cX5_newName 36 = .ok (.invokevirtual 66, 3) := by decide +kernel
theorem dX5_newName_39 : decode cX5_newName 39 = .ok (.ireturn, 1) := by decide +kernel
theorem dX5_newName_40 : decode cX5_newName 40 = .ok (.aload_n 1, 1) := by decide +kernel
theorem dX5_newName_41 : decode cX5_newName 41 = .ok (.iload_n 2, 1) := by decide +kernel
theorem dX5_newName_42 : decode cX5_newName 42 = .ok (.aload_n 0, 1) := by decide +kernel
theorem dX5_newName_43 : decode cX5_newName 43 = .ok (.getfield 12, 3) := by decide +kernel
theorem dX5_newName_46 : decode cX5_newName 46 = .ok (.getfield 107, 3) := by decide +kernel
theorem dX5_newName_49 : decode cX5_newName 49 = .ok (.lastore, 1) := by decide +kernel
theorem dX5_newName_50 : decode cX5_newName 50 = .ok (.aload_n 0, 1) := by decide +kernel
theorem dX5_newName_51 : decode cX5_newName 51 = .ok (.getfield 12, 3) := by decide +kernel
theorem dX5_newName_54 : decode cX5_newName 54 = .ok (.invokevirtual 94, 3) := by decide +kernel
theorem dX5_newName_57 : decode cX5_newName 57 = .ok (.iconst 1, 1) := by decide +kernel
theorem dX5_newName_58 : decode cX5_newName 58 = .ok (.ireturn, 1) := by decide +kernel
theorem dX5_indexOfName_0 : decode cX5_indexOfName 0 = .ok (.iconst 0, 1) := by decide +kernel
theorem dX5_indexOfName_1 : decode cX5_indexOfName 1 = .ok (.istore_n 3, 1) := by decide +kernel
theorem dX5_indexOfName_2 : decode cX5_indexOfName 2 = .ok (.iload_n 3, 1) := by decide +kernel
theorem dX5_indexOfName_3 : decode cX5_indexOfName 3 = .ok (.iload_n 2, 1) := by decide +kernel
theorem dX5_indexOfName_4 : decode cX5_indexOfName 4 = .ok (.if_icmp .ge 31, 3) := by decide +kernel
theorem dX5_indexOfName_7 : decode cX5_indexOfName 7 = .ok (.iload_n 3, 1) := by decide +kernel
theorem dX5_indexOfName_8 : decode cX5_indexOfName 8 = .ok (.aload_n 1, 1) := by decide +kernel
theorem dX5_indexOfName_9 : decode cX5_indexOfName 9 = .ok (.arraylength, 1) := by decide +kernel
theorem dX5_indexOfName_10 : decode cX5_indexOfName 10 = .ok (.if_icmp .ge 25, 3) := by decide +kernel
theorem dX5_indexOfName_13 : decode cX5_indexOfName 13 = .ok (.aload_n 1, 1) := by decide +kernel
theorem dX5_indexOfName_14 : decode cX5_indexOfName 14 = .ok (.iload_n 3, 1) := by decide +kernel
theorem dX5_indexOfName_15 : decode cX5_indexOfName 15 = .ok (.laload, 1) := by decide +kernel
theorem dX5_indexOfName_16 : decode cX5_indexOfName 16 = .ok (.aload_n 0, 1) := by decide +kernel
theorem dX5_indexOfName_17 : decode cX5_indexOfName 17 = .ok (.getfield 12, 3) := by decide +kernel
theorem dX5_indexOfName_20 : decode cX5_indexOfName 20 = .ok (.getfield 107, 3) := by decide +kernel
theorem dX5_indexOfName_23 : decode cX5_indexOfName 23 = .ok (.lcmp, 1) := by decide +kernel
theorem dX5_indexOfName_24 : decode cX5_indexOfName 24 = .ok (.ifCond .ne 5, 3) := by decide +kernel
theorem dX5_indexOfName_27 : decode cX5_indexOfName 27 = .ok (.iload_n 3, 1) := by decide +kernel
theorem dX5_indexOfName_28 : decode cX5_indexOfName 28 = .ok (.ireturn, 1) := by decide +kernel
theorem dX5_indexOfName_29 : decode cX5_indexOfName 29 = .ok (.iinc 3 1, 3) := by decide +kernel
theorem dX5_indexOfName_32 : decode cX5_indexOfName 32 = .ok (.goto (-30), 3) := by decide +kernel
theorem dX5_indexOfName_35 : decode cX5_indexOfName 35 = .ok (.iconst (-1), 1) := by decide +kernel
theorem dX5_indexOfName_36 : decode cX5_indexOfName 36 = .ok (.ireturn, 1) := by decide +kernel
theorem dX5_tubLine_0 : decode cX5_tubLine 0 = .ok (.aload_n 0, 1) := by decide +kernel
theorem dX5_tubLine_1 : decode cX5_tubLine 1 = .ok (.getfield 12, 3) := by decide +kernel
theorem dX5_tubLine_4 : decode cX5_tubLine 4 = .ok (.invokevirtual 94, 3) := by decide +kernel
theorem dX5_tubLine_7 : decode cX5_tubLine 7 = .ok (.aload_n 0, 1) := by decide +kernel
theorem dX5_tubLine_8 : decode cX5_tubLine 8 = .ok (.iconst 1, 1) := by decide +kernel
theorem dX5_tubLine_9 : decode cX5_tubLine 9 = .ok (.bipush 6, 2) := by decide +kernel
theorem dX5_tubLine_11 : decode cX5_tubLine 11 = .ok (.invokevirtual 100, 3) := by decide +kernel
theorem dX5_tubLine_14 : decode cX5_tubLine 14 = .ok (.istore_n 1, 1) := by decide +kernel
theorem dX5_tubLine_15 : decode cX5_tubLine 15 = .ok (.iload_n 1, 1) := by decide +kernel
theorem dX5_tubLine_16 : decode cX5_tubLine 16 = .ok (.iconst (-1), 1) := by decide +kernel
theorem dX5_tubLine_17 : decode cX5_tubLine 17 = .ok (.if_icmp .ne 5, 3) := by decide +kernel
theorem dX5_tubLine_20 : decode cX5_tubLine 20 = .ok (.iconst 0, 1) := by decide +kernel
theorem dX5_tubLine_21 : decode cX5_tubLine 21 = .ok (.ireturn, 1) := by decide +kernel
theorem dX5_tubLine_22 : decode cX5_tubLine 22 = .ok (.aload_n 0, 1) := by decide +kernel
theorem dX5_tubLine_23 : decode cX5_tubLine 23 = .ok (.getfield 32, 3) := by decide +kernel
theorem dX5_tubLine_26 : decode cX5_tubLine 26 = .ok (.iload_n 1, 1) := by decide +kernel
theorem dX5_tubLine_27 : decode cX5_tubLine 27 = .ok (.putfield 63, 3) := by decide +kernel
theorem dX5_tubLine_30 : decode cX5_tubLine 30 = .ok (.aload_n 0, 1) := by decide +kernel
theorem dX5_tubLine_31 : decode cX5_tubLine 31 = .ok (.getfield 32, 3) := by decide +kernel
theorem dX5_tubLine_34 : decode cX5_tubLine 34 = .ok (.aload_n 0, 1) := by decide +kernel
theorem dX5_tubLine_35 : decode cX5_tubLine 35 = .ok (.iconst 1, 1) := by decide +kernel
theorem dX5_tubLine_36 : decode cX5_tubLine 36 = .ok (.iconst 1, 1) := by decide +kernel
theorem dX5_tubLine_37 : decode cX5_tubLine 37 = .ok (.bipush 6, 2) := by decide +kernel
theorem dX5_tubLine_39 : decode cX5_tubLine 39 = .ok (.invokevirtual 111, 3) := by decide +kernel
theorem dX5_tubLine_42 : decode cX5_tubLine 42 = .ok (.putfield 115, 3) := by decide +kernel
theorem dX5_tubLine_45 : decode cX5_tubLine 45 = .ok (.aload_n 0, 1) := by decide +kernel
theorem dX5_tubLine_46 : decode cX5_tubLine 46 = .ok (.getfield 32, 3) := by decide +kernel
theorem dX5_tubLine_49 : decode cX5_tubLine 49 = .ok (.getfield 115, 3) := by decide +kernel
theorem dX5_tubLine_52 : decode cX5_tubLine 52 = .ok (.iconst (-1), 1) := by decide +kernel
theorem dX5_tubLine_53 : decode cX5_tubLine 53 = .ok (.if_icmp .eq 7, 3) := by decide +kernel
theorem dX5_tubLine_56 : decode cX5_tubLine 56 = .ok (.iconst 1, 1) := by decide +kernel
theorem dX5_tubLine_57 : decode cX5_tubLine 57 = .ok (.goto 4, 3) := by decide +kernel
theorem dX5_tubLine_60 : decode cX5_tubLine 60 = .ok (.iconst 0, 1) := by decide +kernel
theorem dX5_tubLine_61 : decode cX5_tubLine 61 = .ok (.ireturn, 1) := by decide +kernel
theorem dX5_oddsLine_0 : decode cX5_oddsLine 0 = .ok (.aload_n 0, 1) := by decide +kernel
theorem dX5_oddsLine_1 : decode cX5_oddsLine 1 = .ok (.getfield 12, 3) := by decide +kernel
theorem dX5_oddsLine_4 : decode cX5_oddsLine 4 = .ok (.invokevirtual 94, 3) := by decide +kernel
theorem dX5_oddsLine_7 : decode cX5_oddsLine 7 = .ok (.aload_n 0, 1) := by decide +kernel
theorem dX5_oddsLine_8 : decode cX5_oddsLine 8 = .ok (.getfield 12, 3) := by decide +kernel
theorem dX5_oddsLine_11 : decode cX5_oddsLine 11 = .ok (.getfield 55, 3) := by decide +kernel
theorem dX5_oddsLine_14 : decode cX5_oddsLine 14 = .ok (.iconst 3, 1) := by decide +kernel
theorem dX5_oddsLine_15 : decode cX5_oddsLine 15 = .ok (.isub, 1) := by decide +kernel
theorem dX5_oddsLine_16 : decode cX5_oddsLine 16 = .ok (.istore_n 1, 1) := by decide +kernel
theorem dX5_oddsLine_17 : decode cX5_oddsLine 17 = .ok (.iload_n 1, 1) := by decide +kernel
theorem dX5_oddsLine_18 : decode cX5_oddsLine 18 = .ok (.ifCond .lt 22, 3) := by decide +kernel
theorem dX5_oddsLine_21 : decode cX5_oddsLine 21 = .ok (.iload_n 1, 1) := by decide +kernel
theorem dX5_oddsLine_22 : decode cX5_oddsLine 22 = .ok (.iconst 5, 1) := by decide +kernel
theorem dX5_oddsLine_23 : decode cX5_oddsLine 23 = .ok (.if_icmp .ge 17, 3) := by decide +kernel
theorem dX5_oddsLine_26 : decode cX5_oddsLine 26 = .ok (.aload_n 0, 1) := by decide +kernel
theorem dX5_oddsLine_27 : decode cX5_oddsLine 27 = .ok (.getfield 32, 3) := by decide +kernel
theorem dX5_oddsLine_30 : decode cX5_oddsLine 30 = .ok (.getfield 118, 3) := by decide +kernel
theorem dX5_oddsLine_33 : decode cX5_oddsLine 33 = .ok (.iload_n 1, 1) := by decide +kernel
theorem dX5_oddsLine_34 : decode cX5_oddsLine 34 = .ok (.invokevirtual 122, 3) := by decide +kernel
theorem dX5_oddsLine_37 : decode cX5_oddsLine 37 = .ok (.ifCond .eq 9, 3) := by decide +kernel
theorem dX5_oddsLine_40 : decode cX5_oddsLine 40 = .ok (.aload_n 0, 1) := by decide +kernel
theorem dX5_oddsLine_41 : decode cX5_oddsLine 41 = .ok (.iconst 2, 1) := by decide +kernel
theorem dX5_oddsLine_42 : decode cX5_oddsLine 42 = .ok (.invokevirtual 66, 3) := by decide +kernel
theorem dX5_oddsLine_45 : decode cX5_oddsLine 45 = .ok (.ireturn, 1) := by decide +kernel
theorem dX5_oddsLine_46 : decode cX5_oddsLine 46 = .ok (.aload_n 0, 1) := by decide +kernel
theorem dX5_oddsLine_47 : decode cX5_oddsLine 47 = .ok (.getfield 12, 3) := by decide +kernel
theorem dX5_oddsLine_50 : decode cX5_oddsLine 50 = .ok (.invokevirtual 94, 3) := by decide +kernel
theorem dX5_oddsLine_53 : decode cX5_oddsLine 53 = .ok (.aload_n 0, 1) := by decide +kernel
theorem dX5_oddsLine_54 : decode cX5_oddsLine 54 = .ok (.iload_n 1, 1) := by decide +kernel
theorem dX5_oddsLine_55 : decode cX5_oddsLine 55 = .ok (.invokevirtual 127, 3) := by decide +kernel
theorem dX5_oddsLine_58 : decode cX5_oddsLine 58 = .ok (.ireturn, 1) := by decide +kernel
theorem dX5_ruleLine_0 : decode cX5_ruleLine 0 = .ok (.aload_n 0, 1) := by decide +kernel
theorem dX5_ruleLine_1 : decode cX5_ruleLine 1 = .ok (.getfield 32, 3) := by decide +kernel
theorem dX5_ruleLine_4 : decode cX5_ruleLine 4 = .ok (.getfield 130, 3) := by decide +kernel
theorem dX5_ruleLine_7 : decode cX5_ruleLine 7 = .ok (.bipush 6, 2) := by decide +kernel
theorem dX5_ruleLine_9 : decode cX5_ruleLine 9 = .ok (.if_icmp .lt 9, 3) := by decide +kernel
theorem dX5_ruleLine_12 : decode cX5_ruleLine 12 = .ok (.aload_n 0, 1) := by decide +kernel
theorem dX5_ruleLine_13 : decode cX5_ruleLine 13 = .ok (.iconst 2, 1) := by decide +kernel
theorem dX5_ruleLine_14 : decode cX5_ruleLine 14 = .ok (.invokevirtual 66, 3) := by decide +kernel
theorem dX5_ruleLine_17 : decode cX5_ruleLine 17 = .ok (.ireturn, 1) := by decide +kernel
theorem dX5_ruleLine_18 : decode cX5_ruleLine 18 = .ok (.aload_n 0, 1) := by decide +kernel
theorem dX5_ruleLine_19 : decode cX5_ruleLine 19 = .ok (.getfield 12, 3) := by decide +kernel
theorem dX5_ruleLine_22 : decode cX5_ruleLine 22 = .ok (.invokevirtual 94, 3) := by decide +kernel
theorem dX5_ruleLine_25 : decode cX5_ruleLine 25 = .ok (.aload_n 0, 1) := by decide +kernel
theorem dX5_ruleLine_26 : decode cX5_ruleLine 26 = .ok (.aload_n 0, 1) := by decide +kernel
theorem dX5_ruleLine_27 : decode cX5_ruleLine 27 = .ok (.getfield 18, 3) := by decide +kernel
theorem dX5_ruleLine_30 : decode cX5_ruleLine 30 = .ok (.aload_n 0, 1) := by decide +kernel
theorem dX5_ruleLine_31 : decode cX5_ruleLine 31 = .ok (.getfield 32, 3) := by decide +kernel
theorem dX5_ruleLine_34 : decode cX5_ruleLine 34 = .ok (.getfield 130, 3) := by decide +kernel
theorem dX5_ruleLine_37 : decode cX5_ruleLine 37 = .ok (.invokevirtual 133, 3) := by decide +kernel
theorem dX5_ruleLine_40 : decode cX5_ruleLine 40 = .ok (.ifCond .eq 19, 3) := by decide +kernel
theorem dX5_ruleLine_43 : decode cX5_ruleLine 43 = .ok (.aload_n 0, 1) := by decide +kernel
theorem dX5_ruleLine_44 : decode cX5_ruleLine 44 = .ok (.iconst 5, 1) := by decide +kernel
theorem dX5_ruleLine_45 : decode cX5_ruleLine 45 = .ok (.aload_n 0, 1) := by decide +kernel
theorem dX5_ruleLine_46 : decode cX5_ruleLine 46 = .ok (.getfield 32, 3) := by decide +kernel
theorem dX5_ruleLine_49 : decode cX5_ruleLine 49 = .ok (.getfield 130, 3) := by decide +kernel
theorem dX5_ruleLine_52 : decode cX5_ruleLine 52 = .ok (.iadd, 1) := by decide +kernel
theorem dX5_ruleLine_53 : decode cX5_ruleLine 53 = .ok (.invokevirtual 127, 3) := by decide +kernel
theorem dX5_ruleLine_56 : decode cX5_ruleLine 56 = .ok (.ifCond .ne 5, 3) := by decide +kernel
theorem dX5_ruleLine_59 : decode cX5_ruleLine 59 = .ok (.iconst 0, 1) := by decide +kernel
theorem dX5_ruleLine_60 : decode cX5_ruleLine 60 = .ok (.ireturn, 1) := by decide +kernel
theorem dX5_ruleLine_61 : decode cX5_ruleLine 61 = .ok (.aload_n 0, 1) := by decide +kernel
theorem dX5_ruleLine_62 : decode cX5_ruleLine 62 = .ok (.getfield 32, 3) := by decide +kernel
theorem dX5_ruleLine_65 : decode cX5_ruleLine 65 = .ok (.dup, 1) := by decide +kernel
theorem dX5_ruleLine_66 : decode cX5_ruleLine 66 = .ok (.getfield 130, 3) := by decide +kernel
theorem dX5_ruleLine_69 : decode cX5_ruleLine 69 = .ok (.iconst 1, 1) := by decide +kernel
theorem dX5_ruleLine_70 : decode cX5_ruleLine 70 = .ok (.iadd, 1) := by decide +kernel
theorem dX5_ruleLine_71 : decode cX5_ruleLine 71 = .ok (.putfield 130, 3) := by decide +kernel
theorem dX5_ruleLine_74 : decode cX5_ruleLine 74 = .ok (.iconst 1, 1) := by decide +kernel
theorem dX5_ruleLine_75 : decode cX5_ruleLine 75 = .ok (.ireturn, 1) := by decide +kernel
theorem dX5_drawLine_0 : decode cX5_drawLine 0 = .ok (.aload_n 0, 1) := by decide +kernel
theorem dX5_drawLine_1 : decode cX5_drawLine 1 = .ok (.getfield 41, 3) := by decide +kernel
theorem dX5_drawLine_4 : decode cX5_drawLine 4 = .ok (.ifCond .eq 9, 3) := by decide +kernel
theorem dX5_drawLine_7 : decode cX5_drawLine 7 = .ok (.aload_n 0, 1) := by decide +kernel
theorem dX5_drawLine_8 : decode cX5_drawLine 8 = .ok (.iconst 2, 1) := by decide +kernel
theorem dX5_drawLine_9 : decode cX5_drawLine 9 = .ok (.invokevirtual 66, 3) := by decide +kernel
theorem dX5_drawLine_12 : decode cX5_drawLine 12 = .ok (.ireturn, 1) := by decide +kernel
theorem dX5_drawLine_13 : decode cX5_drawLine 13 = .ok (.aload_n 0, 1) := by decide +kernel
theorem dX5_drawLine_14 : decode cX5_drawLine 14 = .ok (.iconst 1, 1) := by decide +kernel
theorem dX5_drawLine_15 : decode cX5_drawLine 15 = .ok (.putfield 41, 3) := by decide +kernel
theorem dX5_drawLine_18 : decode cX5_drawLine 18 = .ok (.aload_n 0, 1) := by decide +kernel
theorem dX5_drawLine_19 : decode cX5_drawLine 19 = .ok (.getfield 32, 3) := by decide +kernel
theorem dX5_drawLine_22 : decode cX5_drawLine 22 = .ok (.aload_n 0, 1) := by decide +kernel
theorem dX5_drawLine_23 : decode cX5_drawLine 23 = .ok (.bipush 18, 2) := by decide +kernel
theorem dX5_drawLine_25 : decode cX5_drawLine 25 = .ok (.iconst 0, 1) := by decide +kernel
theorem dX5_drawLine_26 : decode cX5_drawLine 26 = .ok (.sipush 999, 3) := by decide +kernel
theorem dX5_drawLine_29 : decode cX5_drawLine 29 = .ok (.invokevirtual 111, 3) := by decide +kernel
theorem dX5_drawLine_32 : decode cX5_drawLine 32 = .ok (.putfield 137, 3) := by decide +kernel
theorem dX5_drawLine_35 : decode cX5_drawLine 35 = .ok (.aload_n 0, 1) := by decide +kernel
theorem dX5_drawLine_36 : decode cX5_drawLine 36 = .ok (.getfield 32, 3) := by decide +kernel
theorem dX5_drawLine_39 : decode cX5_drawLine 39 = .ok (.getfield 137, 3) := by decide +kernel
theorem dX5_drawLine_42 : decode cX5_drawLine 42 = .ok (.iconst (-1), 1) := by decide +kernel
theorem dX5_drawLine_43 : decode cX5_drawLine 43 = .ok (.if_icmp .eq 7, 3) := by decide +kernel
theorem dX5_drawLine_46 : decode cX5_drawLine 46 = .ok (.iconst 1, 1) := by decide +kernel
theorem dX5_drawLine_47 : decode cX5_drawLine 47 = .ok (.goto 4, 3) := by decide +kernel
theorem dX5_drawLine_50 : decode cX5_drawLine 50 = .ok (.iconst 0, 1) := by decide +kernel
theorem dX5_drawLine_51 : decode cX5_drawLine 51 = .ok (.ireturn, 1) := by decide +kernel
theorem dX5_biteLine_0 : decode cX5_biteLine 0 = .ok (.aload_n 0, 1) := by decide +kernel
theorem dX5_biteLine_1 : decode cX5_biteLine 1 = .ok (.getfield 45, 3) := by decide +kernel
theorem dX5_biteLine_4 : decode cX5_biteLine 4 = .ok (.ifCond .eq 9, 3) := by decide +kernel
theorem dX5_biteLine_7 : decode cX5_biteLine 7 = .ok (.aload_n 0, 1) := by decide +kernel
theorem dX5_biteLine_8 : decode cX5_biteLine 8 = .ok (.iconst 2, 1) := by decide +kernel
theorem dX5_biteLine_9 : decode cX5_biteLine 9 = .ok (.invokevirtual 66, 3) := by decide +kernel
theorem dX5_biteLine_12 : decode cX5_biteLine 12 = .ok (.ireturn, 1) := by decide +kernel
theorem dX5_biteLine_13 : decode cX5_biteLine 13 = .ok (.aload_n 0, 1) := by decide +kernel
theorem dX5_biteLine_14 : decode cX5_biteLine 14 = .ok (.iconst 1, 1) := by decide +kernel
theorem dX5_biteLine_15 : decode cX5_biteLine 15 = .ok (.putfield 45, 3) := by decide +kernel
theorem dX5_biteLine_18 : decode cX5_biteLine 18 = .ok (.aload_n 0, 1) := by decide +kernel
theorem dX5_biteLine_19 : decode cX5_biteLine 19 = .ok (.getfield 32, 3) := by decide +kernel
theorem dX5_biteLine_22 : decode cX5_biteLine 22 = .ok (.aload_n 0, 1) := by decide +kernel
theorem dX5_biteLine_23 : decode cX5_biteLine 23 = .ok (.bipush 19, 2) := by decide +kernel
theorem dX5_biteLine_25 : decode cX5_biteLine 25 = .ok (.iconst 0, 1) := by decide +kernel
theorem dX5_biteLine_26 : decode cX5_biteLine 26 = .ok (.bipush 9, 2) := by decide +kernel
theorem dX5_biteLine_28 : decode cX5_biteLine 28 = .ok (.invokevirtual 111, 3) := by decide +kernel
theorem dX5_biteLine_31 : decode cX5_biteLine 31 = .ok (.putfield 140, 3) := by decide +kernel
theorem dX5_biteLine_34 : decode cX5_biteLine 34 = .ok (.aload_n 0, 1) := by decide +kernel
theorem dX5_biteLine_35 : decode cX5_biteLine 35 = .ok (.getfield 32, 3) := by decide +kernel
theorem dX5_biteLine_38 : decode cX5_biteLine 38 = .ok (.getfield 140, 3) := by decide +kernel
theorem dX5_biteLine_41 : decode cX5_biteLine 41 = .ok (.iconst (-1), 1) := by decide +kernel
theorem dX5_biteLine_42 : decode cX5_biteLine 42 = .ok (.if_icmp .eq 7, 3) := by decide +kernel
theorem dX5_biteLine_45 : decode cX5_biteLine 45 = .ok (.iconst 1, 1) := by decide +kernel
theorem dX5_biteLine_46 : decode cX5_biteLine 46 = .ok (.goto 4, 3) := by decide +kernel
theorem dX5_biteLine_49 : decode cX5_biteLine 49 = .ok (.iconst 0, 1) := by decide +kernel
theorem dX5_biteLine_50 : decode cX5_biteLine 50 = .ok (.ireturn, 1) := by decide +kernel
theorem dX5_appleLine_0 : decode cX5_appleLine 0 = .ok (.aload_n 0, 1) := by decide +kernel
theorem dX5_appleLine_1 : decode cX5_appleLine 1 = .ok (.getfield 32, 3) := by decide +kernel
theorem dX5_appleLine_4 : decode cX5_appleLine 4 = .ok (.getfield 143, 3) := by decide +kernel
theorem dX5_appleLine_7 : decode cX5_appleLine 7 = .ok (.istore_n 1, 1) := by decide +kernel
theorem dX5_appleLine_8 : decode cX5_appleLine 8 = .ok (.iload_n 1, 1) := by decide +kernel
theorem dX5_appleLine_9 : decode cX5_appleLine 9 = .ok (.bipush 10, 2) := by decide +kernel
theorem dX5_appleLine_11 : decode cX5_appleLine 11 = .ok (.if_icmp .lt 9, 3) := by decide +kernel
theorem dX5_appleLine_14 : decode cX5_appleLine 14 = .ok (.aload_n 0, 1) := by decide +kernel
theorem dX5_appleLine_15 : decode cX5_appleLine 15 = .ok (.iconst 2, 1) := by decide +kernel
theorem dX5_appleLine_16 : decode cX5_appleLine 16 = .ok (.invokevirtual 66, 3) := by decide +kernel
theorem dX5_appleLine_19 : decode cX5_appleLine 19 = .ok (.ireturn, 1) := by decide +kernel
theorem dX5_appleLine_20 : decode cX5_appleLine 20 = .ok (.aload_n 0, 1) := by decide +kernel
theorem dX5_appleLine_21 : decode cX5_appleLine 21 = .ok (.getfield 12, 3) := by decide +kernel
theorem dX5_appleLine_24 : decode cX5_appleLine 24 = .ok (.invokevirtual 94, 3) := by decide +kernel
theorem dX5_appleLine_27 : decode cX5_appleLine 27 = .ok (.aload_n 0, 1) := by decide +kernel
theorem dX5_appleLine_28 : decode cX5_appleLine 28 = .ok (.aload_n 0, 1) := by decide +kernel
theorem dX5_appleLine_29 : decode cX5_appleLine 29 = .ok (.getfield 22, 3) := by decide +kernel
theorem dX5_appleLine_32 : decode cX5_appleLine 32 = .ok (.iload_n 1, 1) := by decide +kernel
theorem dX5_appleLine_33 : decode cX5_appleLine 33 = .ok (.invokevirtual 133, 3) := by decide +kernel
theorem dX5_appleLine_36 : decode cX5_appleLine 36 = .ok (.ifCond .ne 5, 3) := by decide +kernel
theorem dX5_appleLine_39 : decode cX5_appleLine 39 = .ok (.iconst 0, 1) := by decide +kernel
theorem dX5_appleLine_40 : decode cX5_appleLine 40 = .ok (.ireturn, 1) := by decide +kernel
theorem dX5_appleLine_41 : decode cX5_appleLine 41 = .ok (.aload_n 0, 1) := by decide +kernel
theorem dX5_appleLine_42 : decode cX5_appleLine 42 = .ok (.bipush 10, 2) := by decide +kernel
theorem dX5_appleLine_44 : decode cX5_appleLine 44 = .ok (.iconst 0, 1) := by decide +kernel
theorem dX5_appleLine_45 : decode cX5_appleLine 45 = .ok (.aload_n 0, 1) := by decide +kernel
theorem dX5_appleLine_46 : decode cX5_appleLine 46 = .ok (.getfield 32, 3) := by decide +kernel
theorem dX5_appleLine_49 : decode cX5_appleLine 49 = .ok (.getfield 63, 3) := by decide +kernel
theorem dX5_appleLine_52 : decode cX5_appleLine 52 = .ok (.iconst 1, 1) := by decide +kernel
theorem dX5_appleLine_53 : decode cX5_appleLine 53 = .ok (.isub, 1) := by decide +kernel
theorem dX5_appleLine_54 : decode cX5_appleLine 54 = .ok (.invokevirtual 111, 3) := by decide +kernel
theorem dX5_appleLine_57 : decode cX5_appleLine 57 = .ok (.istore_n 2, 1) := by decide +kernel
theorem dX5_appleLine_58 : decode cX5_appleLine 58 = .ok (.iload_n 2, 1) := by decide +kernel
theorem dX5_appleLine_59 : decode cX5_appleLine 59 = .ok (.iconst (-1), 1) := by decide +kernel
theorem dX5_appleLine_60 : decode cX5_appleLine 60 = .ok (.if_icmp .eq 11, 3) := by decide +kernel
theorem dX5_appleLine_63 : decode cX5_appleLine 63 = .ok (.aload_n 0, 1) := by decide +kernel
theorem dX5_appleLine_64 : decode cX5_appleLine 64 = .ok (.iload_n 2, 1) := by decide +kernel
theorem dX5_appleLine_65 : decode cX5_appleLine 65 = .ok (.invokevirtual 146, 3) := by decide +kernel
theorem dX5_appleLine_68 : decode cX5_appleLine 68 = .ok (.ifCond .ne 5, 3) := by decide +kernel
theorem dX5_appleLine_71 : decode cX5_appleLine 71 = .ok (.iconst 0, 1) := by decide +kernel
theorem dX5_appleLine_72 : decode cX5_appleLine 72 = .ok (.ireturn, 1) := by decide +kernel
theorem dX5_appleLine_73 : decode cX5_appleLine 73 = .ok (.aload_n 0, 1) := by decide +kernel
theorem dX5_appleLine_74 : decode cX5_appleLine 74 = .ok (.iconst 0, 1) := by decide +kernel
theorem dX5_appleLine_75 : decode cX5_appleLine 75 = .ok (.aload_n 0, 1) := by decide +kernel
theorem dX5_appleLine_76 : decode cX5_appleLine 76 = .ok (.getfield 32, 3) := by decide +kernel
theorem dX5_appleLine_79 : decode cX5_appleLine 79 = .ok (.getfield 115, 3) := by decide +kernel
theorem dX5_appleLine_82 : decode cX5_appleLine 82 = .ok (.iconst 1, 1) := by decide +kernel
theorem dX5_appleLine_83 : decode cX5_appleLine 83 = .ok (.isub, 1) := by decide +kernel
theorem dX5_appleLine_84 : decode cX5_appleLine 84 = .ok (.invokevirtual 100, 3) := by decide +kernel
theorem dX5_appleLine_87 : decode cX5_appleLine 87 = .ok (.istore_n 3, 1) := by decide +kernel
theorem dX5_appleLine_88 : decode cX5_appleLine 88 = .ok (.iload_n 3, 1) := by decide +kernel
theorem dX5_appleLine_89 : decode cX5_appleLine 89 = .ok (.iconst (-1), 1) := by decide +kernel
theorem dX5_appleLine_90 : decode cX5_appleLine 90 = .ok (.if_icmp .ne 7, 3) := by decide +kernel
theorem dX5_appleLine_93 : decode cX5_appleLine 93 = .ok (.iconst (-1), 1) := by decide +kernel
theorem dX5_appleLine_94 : decode cX5_appleLine 94 = .ok (.goto 12, 3) := by decide +kernel
theorem dX5_appleLine_97 : decode cX5_appleLine 97 = .ok (.aload_n 0, 1) := by decide +kernel
theorem dX5_appleLine_98 : decode cX5_appleLine 98 = .ok (.bipush 11, 2) := by decide +kernel
theorem dX5_appleLine_100 : decode cX5_appleLine 100 = .ok (.iconst 1, 1) := by decide +kernel
theorem dX5_appleLine_101 : decode cX5_appleLine 101 = .ok (.bipush 99, 2) := by decide +kernel
theorem dX5_appleLine_103 : decode cX5_appleLine 103 = .ok (.invokevirtual 111, 3) := by decide +kernel
theorem dX5_appleLine_106 : decode cX5_appleLine 106 = .ok (.istore 4, 2) := by decide +kernel
theorem dX5_appleLine_108 : decode cX5_appleLine 108 = .ok (.iload 4, 2) := by decide +kernel
theorem dX5_appleLine_110 : decode cX5_appleLine 110 = .ok (.iconst (-1), 1) := by decide +kernel
theorem dX5_appleLine_111 : decode cX5_appleLine 111 = .ok (.if_icmp .ne 7, 3) := by decide +kernel
theorem dX5_appleLine_114 : decode cX5_appleLine 114 = .ok (.iconst (-1), 1) := by decide +kernel
theorem dX5_appleLine_115 : decode cX5_appleLine 115 = .ok (.goto 12, 3) := by decide +kernel
theorem dX5_appleLine_118 : decode cX5_appleLine 118 = .ok (.aload_n 0, 1) := by decide +kernel
theorem dX5_appleLine_119 : decode cX5_appleLine 119 = .ok (.bipush 12, 2) := by decide +kernel
theorem dX5_appleLine_121 : decode cX5_appleLine 121 = .ok (.iconst 0, 1) := by decide +kernel
theorem dX5_appleLine_122 : decode cX5_appleLine 122 = .ok (.bipush 9, 2) := by decide +kernel
theorem dX5_appleLine_124 : decode cX5_appleLine 124 = .ok (.invokevirtual 111, 3) := by decide +kernel
theorem dX5_appleLine_127 : decode cX5_appleLine 127 = .ok (.istore 5, 2) := by decide +kernel
theorem dX5_appleLine_129 : decode cX5_appleLine 129 = .ok (.iload 5, 2) := by decide +kernel
theorem dX5_appleLine_131 : decode cX5_appleLine 131 = .ok (.iconst (-1), 1) := by decide +kernel
theorem dX5_appleLine_132 : decode cX5_appleLine 132 = .ok (.if_icmp .ne 5, 3) := by decide +kernel
theorem dX5_appleLine_135 : decode cX5_appleLine 135 = .ok (.iconst 0, 1) := by decide +kernel
theorem dX5_appleLine_136 : decode cX5_appleLine 136 = .ok (.ireturn, 1) := by decide +kernel
theorem dX5_appleLine_137 : decode cX5_appleLine 137 = .ok (.aload_n 0, 1) := by decide +kernel
theorem dX5_appleLine_138 : decode cX5_appleLine 138 = .ok (.getfield 32, 3) := by decide +kernel
theorem dX5_appleLine_141 : decode cX5_appleLine 141 = .ok (.getfield 149, 3) := by decide +kernel
theorem dX5_appleLine_144 : decode cX5_appleLine 144 = .ok (.iload_n 1, 1) := by decide +kernel
theorem dX5_appleLine_145 : decode cX5_appleLine 145 = .ok (.iload_n 2, 1) := by decide +kernel
theorem dX5_appleLine_146 : decode cX5_appleLine 146 = .ok (.iastore, 1) := by decide +kernel
theorem dX5_appleLine_147 : decode cX5_appleLine 147 = .ok (.aload_n 0, 1) := by decide +kernel
theorem dX5_appleLine_148 : decode cX5_appleLine 148 = .ok (.getfield 32, 3) := by decide +kernel
theorem dX5_appleLine_151 : decode cX5_appleLine 151 = .ok (.getfield 153, 3) := by decide +kernel
theorem dX5_appleLine_154 : decode cX5_appleLine 154 = .ok (.iload_n 1, 1) := by decide +kernel
theorem dX5_appleLine_155 : decode cX5_appleLine 155 = .ok (.iload_n 3, 1) := by decide +kernel
theorem dX5_appleLine_156 : decode cX5_appleLine 156 = .ok (.iastore, 1) := by decide +kernel
theorem dX5_appleLine_157 : decode cX5_appleLine 157 = .ok (.aload_n 0, 1) := by decide +kernel
theorem dX5_appleLine_158 : decode cX5_appleLine 158 = .ok (.getfield 32, 3) := by decide +kernel
theorem dX5_appleLine_161 : decode cX5_appleLine 161 = .ok (.getfield 156, 3) := by decide +kernel
theorem dX5_appleLine_164 : decode cX5_appleLine 164 = .ok (.iload_n 1, 1) := by decide +kernel
theorem dX5_appleLine_165 : decode cX5_appleLine 165 = .ok (.iload 4, 2) := by decide +kernel
theorem dX5_appleLine_167 : decode cX5_appleLine 167 = .ok (.iastore, 1) := by decide +kernel
theorem dX5_appleLine_168 : decode cX5_appleLine 168 = .ok (.aload_n 0, 1) := by decide +kernel
theorem dX5_appleLine_169 : decode cX5_appleLine 169 = .ok (.getfield 32, 3) := by decide +kernel
theorem dX5_appleLine_172 : decode cX5_appleLine 172 = .ok (.getfield 159, 3) := by decide +kernel
theorem dX5_appleLine_175 : decode cX5_appleLine 175 = .ok (.iload_n 1, 1) := by decide +kernel
theorem dX5_appleLine_176 : decode cX5_appleLine 176 = .ok (.iload 5, 2) := by decide +kernel
theorem dX5_appleLine_178 : decode cX5_appleLine 178 = .ok (.iastore, 1) := by decide +kernel
theorem dX5_appleLine_179 : decode cX5_appleLine 179 = .ok (.aload_n 0, 1) := by decide +kernel
theorem dX5_appleLine_180 : decode cX5_appleLine 180 = .ok (.getfield 32, 3) := by decide +kernel
theorem dX5_appleLine_183 : decode cX5_appleLine 183 = .ok (.getfield 162, 3) := by decide +kernel
theorem dX5_appleLine_186 : decode cX5_appleLine 186 = .ok (.iload_n 1, 1) := by decide +kernel
theorem dX5_appleLine_187 : decode cX5_appleLine 187 = .ok (.aload_n 0, 1) := by decide +kernel
theorem dX5_appleLine_188 : decode cX5_appleLine 188 = .ok (.iconst 4, 1) := by decide +kernel
theorem dX5_appleLine_189 : decode cX5_appleLine 189 = .ok (.invokevirtual 165, 3) := by decide +kernel
theorem dX5_appleLine_192 : decode cX5_appleLine 192 = .ok (.ifCond .eq 7, 3) := by decide +kernel
theorem dX5_appleLine_195 : decode cX5_appleLine 195 = .ok (.iconst 1, 1) := by decide +kernel
theorem dX5_appleLine_196 : decode cX5_appleLine 196 = .ok (.goto 4, 3) := by decide +kernel
theorem dX5_appleLine_199 : decode cX5_appleLine 199 = .ok (.iconst 0, 1) := by decide +kernel
theorem dX5_appleLine_200 : decode cX5_appleLine 200 = .ok (.iastore, 1) := by decide +kernel
theorem dX5_appleLine_201 : decode cX5_appleLine 201 = .ok (.aload_n 0, 1) := by decide +kernel
theorem dX5_appleLine_202 : decode cX5_appleLine 202 = .ok (.getfield 32, 3) := by decide +kernel
theorem dX5_appleLine_205 : decode cX5_appleLine 205 = .ok (.getfield 168, 3) := by decide +kernel
theorem dX5_appleLine_208 : decode cX5_appleLine 208 = .ok (.iload_n 1, 1) := by decide +kernel
theorem dX5_appleLine_209 : decode cX5_appleLine 209 = .ok (.aload_n 0, 1) := by decide +kernel
theorem dX5_appleLine_210 : decode cX5_appleLine 210 = .ok (.getfield 12, 3) := by decide +kernel
theorem dX5_appleLine_213 : decode cX5_appleLine 213 = .ok (.getfield 55, 3) := by decide +kernel
theorem dX5_appleLine_216 : decode cX5_appleLine 216 = .ok (.bipush 13, 2) := by decide +kernel
theorem dX5_appleLine_218 : decode cX5_appleLine 218 = .ok (.if_icmp .ne 15, 3) := by decide +kernel
theorem dX5_appleLine_221 : decode cX5_appleLine 221 = .ok (.aload_n 0, 1) := by decide +kernel
theorem dX5_appleLine_222 : decode cX5_appleLine 222 = .ok (.bipush 13, 2) := by decide +kernel
theorem dX5_appleLine_224 : decode cX5_appleLine 224 = .ok (.iconst 0, 1) := by decide +kernel
theorem dX5_appleLine_225 : decode cX5_appleLine 225 = .ok (.bipush 99, 2) := by decide +kernel
theorem dX5_appleLine_227 : decode cX5_appleLine 227 = .ok (.invokevirtual 111, 3) := by decide +kernel
theorem dX5_appleLine_230 : decode cX5_appleLine 230 = .ok (.goto 4, 3) := by decide +kernel
theorem dX5_appleLine_233 : decode cX5_appleLine 233 = .ok (.iconst 1, 1) := by decide +kernel
theorem dX5_appleLine_234 : decode cX5_appleLine 234 = .ok (.iastore, 1) := by decide +kernel
theorem dX5_appleLine_235 : decode cX5_appleLine 235 = .ok (.aload_n 0, 1) := by decide +kernel
theorem dX5_appleLine_236 : decode cX5_appleLine 236 = .ok (.getfield 32, 3) := by decide +kernel
theorem dX5_appleLine_239 : decode cX5_appleLine 239 = .ok (.dup, 1) := by decide +kernel
theorem dX5_appleLine_240 : decode cX5_appleLine 240 = .ok (.getfield 143, 3) := by decide +kernel
theorem dX5_appleLine_243 : decode cX5_appleLine 243 = .ok (.iconst 1, 1) := by decide +kernel
theorem dX5_appleLine_244 : decode cX5_appleLine 244 = .ok (.iadd, 1) := by decide +kernel
theorem dX5_appleLine_245 : decode cX5_appleLine 245 = .ok (.putfield 143, 3) := by decide +kernel
theorem dX5_appleLine_248 : decode cX5_appleLine 248 = .ok (.aload_n 0, 1) := by decide +kernel
theorem dX5_appleLine_249 : decode cX5_appleLine 249 = .ok (.getfield 32, 3) := by decide +kernel
theorem dX5_appleLine_252 : decode cX5_appleLine 252 = .ok (.getfield 168, 3) := by decide +kernel
theorem dX5_appleLine_255 : decode cX5_appleLine 255 = .ok (.iload_n 1, 1) := by decide +kernel
theorem dX5_appleLine_256 : decode cX5_appleLine 256 = .ok (.iaload, 1) := by decide +kernel
theorem dX5_appleLine_257 : decode cX5_appleLine 257 = .ok (.iconst (-1), 1) := by decide +kernel
theorem dX5_appleLine_258 : decode cX5_appleLine 258 = .ok (.if_icmp .eq 7, 3) := by decide +kernel
theorem dX5_appleLine_261 : decode cX5_appleLine 261 = .ok (.iconst 1, 1) := by decide +kernel
theorem dX5_appleLine_262 : decode cX5_appleLine 262 = .ok (.goto 4, 3) := by decide +kernel
theorem dX5_appleLine_265 : decode cX5_appleLine 265 = .ok (.iconst 0, 1) := by decide +kernel
theorem dX5_appleLine_266 : decode cX5_appleLine 266 = .ok (.ireturn, 1) := by decide +kernel
theorem dX5_isFreeCell_0 : decode cX5_isFreeCell 0 = .ok (.iconst 0, 1) := by decide +kernel
theorem dX5_isFreeCell_1 : decode cX5_isFreeCell 1 = .ok (.istore_n 2, 1) := by decide +kernel
theorem dX5_isFreeCell_2 : decode cX5_isFreeCell 2 = .ok (.iload_n 2, 1) := by decide +kernel
theorem dX5_isFreeCell_3 : decode cX5_isFreeCell 3 = .ok (.aload_n 0, 1) := by decide +kernel
theorem dX5_isFreeCell_4 : decode cX5_isFreeCell 4 = .ok (.getfield 32, 3) := by decide +kernel
theorem dX5_isFreeCell_7 : decode cX5_isFreeCell 7 = .ok (.getfield 143, 3) := by decide +kernel
theorem dX5_isFreeCell_10 : decode cX5_isFreeCell 10 = .ok (.if_icmp .ge 59, 3) := by decide +kernel
theorem dX5_isFreeCell_13 : decode cX5_isFreeCell 13 = .ok (.aload_n 0, 1) := by decide +kernel
theorem dX5_isFreeCell_14 : decode cX5_isFreeCell 14 = .ok (.getfield 12, 3) := by decide +kernel
theorem dX5_isFreeCell_17 : decode cX5_isFreeCell 17 = .ok (.getfield 55, 3) := by decide +kernel
theorem dX5_isFreeCell_20 : decode cX5_isFreeCell 20 = .ok (.bipush 27, 2) := by decide +kernel
theorem dX5_isFreeCell_22 : decode cX5_isFreeCell 22 = .ok (.if_icmp .ne 47, 3) := by decide +kernel
theorem dX5_isFreeCell_25 : decode cX5_isFreeCell 25 = .ok (.aload_n 0, 1) := by decide +kernel
theorem dX5_isFreeCell_26 : decode cX5_isFreeCell 26 = .ok (.getfield 32, 3) := by decide +kernel
theorem dX5_isFreeCell_29 : decode cX5_isFreeCell 29 = .ok (.getfield 149, 3) := by decide +kernel
theorem dX5_isFreeCell_32 : decode cX5_isFreeCell 32 = .ok (.iload_n 2, 1) := by decide +kernel
theorem dX5_isFreeCell_33 : decode cX5_isFreeCell 33 = .ok (.iaload, 1) := by decide +kernel
theorem dX5_isFreeCell_34 : decode cX5_isFreeCell 34 = .ok (.iload_n 1, 1) := by decide +kernel
theorem dX5_isFreeCell_35 : decode cX5_isFreeCell 35 = .ok (.if_icmp .ne 28, 3) := by decide +kernel
theorem dX5_isFreeCell_38 : decode cX5_isFreeCell 38 = .ok (.aload_n 0, 1) := by decide +kernel
theorem dX5_isFreeCell_39 : decode cX5_isFreeCell 39 = .ok (.getfield 32, 3) := by decide +kernel
theorem dX5_isFreeCell_42 : decode cX5_isFreeCell 42 = .ok (.getfield 153, 3) := by decide +kernel
theorem dX5_isFreeCell_45 : decode cX5_isFreeCell 45 = .ok (.iload_n 2, 1) := by decide +kernel
theorem dX5_isFreeCell_46 : decode cX5_isFreeCell 46 = .ok (.iaload, 1) := by decide +kernel
theorem dX5_isFreeCell_47 : decode cX5_isFreeCell 47 = .ok (.aload_n 0, 1) := by decide +kernel
theorem dX5_isFreeCell_48 : decode cX5_isFreeCell 48 = .ok (.getfield 12, 3) := by decide +kernel
theorem dX5_isFreeCell_51 : decode cX5_isFreeCell 51 = .ok (.getfield 97, 3) := by decide +kernel
theorem dX5_isFreeCell_54 : decode cX5_isFreeCell 54 = .ok (.if_icmp .ne 9, 3) := by decide +kernel
theorem dX5_isFreeCell_57 : decode cX5_isFreeCell 57 = .ok (.aload_n 0, 1) := by decide +kernel
theorem dX5_isFreeCell_58 : decode cX5_isFreeCell 58 = .ok (.iconst 3, 1) := by decide +kernel
theorem dX5_isFreeCell_59 : decode cX5_isFreeCell 59 = .ok (.invokevirtual 66, 3) := by decide +kernel
theorem dX5_isFreeCell_62 : decode cX5_isFreeCell 62 = .ok (.ireturn, 1) := by decide +kernel
theorem dX5_isFreeCell_63 : decode cX5_isFreeCell 63 = .ok (.iinc 2 1, 3) := by decide +kernel
theorem dX5_isFreeCell_66 : decode cX5_isFreeCell 66 = .ok (.goto (-64), 3) := by decide +kernel
theorem dX5_isFreeCell_69 : decode cX5_isFreeCell 69 = .ok (.iconst 1, 1) := by decide +kernel
theorem dX5_isFreeCell_70 : decode cX5_isFreeCell 70 = .ok (.ireturn, 1) := by decide +kernel
theorem dX5_bobberLine_0 : decode cX5_bobberLine 0 = .ok (.aload_n 0, 1) := by decide +kernel
theorem dX5_bobberLine_1 : decode cX5_bobberLine 1 = .ok (.getfield 32, 3) := by decide +kernel
theorem dX5_bobberLine_4 : decode cX5_bobberLine 4 = .ok (.getfield 171, 3) := by decide +kernel
theorem dX5_bobberLine_7 : decode cX5_bobberLine 7 = .ok (.istore_n 1, 1) := by decide +kernel
theorem dX5_bobberLine_8 : decode cX5_bobberLine 8 = .ok (.iload_n 1, 1) := by decide +kernel
theorem dX5_bobberLine_9 : decode cX5_bobberLine 9 = .ok (.iconst 4, 1) := by decide +kernel
theorem dX5_bobberLine_10 : decode cX5_bobberLine 10 = .ok (.if_icmp .lt 9, 3) := by decide +kernel
theorem dX5_bobberLine_13 : decode cX5_bobberLine 13 = .ok (.aload_n 0, 1) := by decide +kernel
theorem dX5_bobberLine_14 : decode cX5_bobberLine 14 = .ok (.iconst 2, 1) := by decide +kernel
theorem dX5_bobberLine_15 : decode cX5_bobberLine 15 = .ok (.invokevirtual 66, 3) := by decide +kernel
theorem dX5_bobberLine_18 : decode cX5_bobberLine 18 = .ok (.ireturn, 1) := by decide +kernel
theorem dX5_bobberLine_19 : decode cX5_bobberLine 19 = .ok (.aload_n 0, 1) := by decide +kernel
theorem dX5_bobberLine_20 : decode cX5_bobberLine 20 = .ok (.getfield 12, 3) := by decide +kernel
theorem dX5_bobberLine_23 : decode cX5_bobberLine 23 = .ok (.invokevirtual 94, 3) := by decide +kernel
theorem dX5_bobberLine_26 : decode cX5_bobberLine 26 = .ok (.aload_n 0, 1) := by decide +kernel
theorem dX5_bobberLine_27 : decode cX5_bobberLine 27 = .ok (.aload_n 0, 1) := by decide +kernel
theorem dX5_bobberLine_28 : decode cX5_bobberLine 28 = .ok (.getfield 25, 3) := by decide +kernel
theorem dX5_bobberLine_31 : decode cX5_bobberLine 31 = .ok (.iload_n 1, 1) := by decide +kernel
theorem dX5_bobberLine_32 : decode cX5_bobberLine 32 = .ok (.invokevirtual 133, 3) := by decide +kernel
theorem dX5_bobberLine_35 : decode cX5_bobberLine 35 = .ok (.ifCond .ne 5, 3) := by decide +kernel
theorem dX5_bobberLine_38 : decode cX5_bobberLine 38 = .ok (.iconst 0, 1) := by decide +kernel
theorem dX5_bobberLine_39 : decode cX5_bobberLine 39 = .ok (.ireturn, 1) := by decide +kernel
theorem dX5_bobberLine_40 : decode cX5_bobberLine 40 = .ok (.aload_n 0, 1) := by decide +kernel
theorem dX5_bobberLine_41 : decode cX5_bobberLine 41 = .ok (.bipush 10, 2) := by decide +kernel
theorem dX5_bobberLine_43 : decode cX5_bobberLine 43 = .ok (.iconst 0, 1) := by decide +kernel
theorem dX5_bobberLine_44 : decode cX5_bobberLine 44 = .ok (.aload_n 0, 1) := by decide +kernel
theorem dX5_bobberLine_45 : decode cX5_bobberLine 45 = .ok (.getfield 32, 3) := by decide +kernel
theorem dX5_bobberLine_48 : decode cX5_bobberLine 48 = .ok (.getfield 63, 3) := by decide +kernel
theorem dX5_bobberLine_51 : decode cX5_bobberLine 51 = .ok (.iconst 1, 1) := by decide +kernel
theorem dX5_bobberLine_52 : decode cX5_bobberLine 52 = .ok (.isub, 1) := by decide +kernel
theorem dX5_bobberLine_53 : decode cX5_bobberLine 53 = .ok (.invokevirtual 111, 3) := by decide +kernel
theorem dX5_bobberLine_56 : decode cX5_bobberLine 56 = .ok (.istore_n 2, 1) := by decide +kernel
theorem dX5_bobberLine_57 : decode cX5_bobberLine 57 = .ok (.iload_n 2, 1) := by decide +kernel
theorem dX5_bobberLine_58 : decode cX5_bobberLine 58 = .ok (.iconst (-1), 1) := by decide +kernel
theorem dX5_bobberLine_59 : decode cX5_bobberLine 59 = .ok (.if_icmp .ne 7, 3) := by decide +kernel
theorem dX5_bobberLine_62 : decode cX5_bobberLine 62 = .ok (.iconst (-1), 1) := by decide +kernel
theorem dX5_bobberLine_63 : decode cX5_bobberLine 63 = .ok (.goto 17, 3) := by decide +kernel
theorem dX5_bobberLine_66 : decode cX5_bobberLine 66 = .ok (.aload_n 0, 1) := by decide +kernel
theorem dX5_bobberLine_67 : decode cX5_bobberLine 67 = .ok (.iconst 0, 1) := by decide +kernel
theorem dX5_bobberLine_68 : decode cX5_bobberLine 68 = .ok (.aload_n 0, 1) := by decide +kernel
theorem dX5_bobberLine_69 : decode cX5_bobberLine 69 = .ok (.getfield 32, 3) := by decide +kernel
theorem dX5_bobberLine_72 : decode cX5_bobberLine 72 = .ok (.getfield 115, 3) := by decide +kernel
theorem dX5_bobberLine_75 : decode cX5_bobberLine 75 = .ok (.iconst 1, 1) := by decide +kernel
theorem dX5_bobberLine_76 : decode cX5_bobberLine 76 = .ok (.isub, 1) := by decide +kernel
theorem dX5_bobberLine_77 : decode cX5_bobberLine 77 = .ok (.invokevirtual 100, 3) := by decide +kernel
theorem dX5_bobberLine_80 : decode cX5_bobberLine 80 = .ok (.istore_n 3, 1) := by decide +kernel
theorem dX5_bobberLine_81 : decode cX5_bobberLine 81 = .ok (.iload_n 3, 1) := by decide +kernel
theorem dX5_bobberLine_82 : decode cX5_bobberLine 82 = .ok (.iconst (-1), 1) := by decide +kernel
theorem dX5_bobberLine_83 : decode cX5_bobberLine 83 = .ok (.if_icmp .ne 7, 3) := by decide +kernel
theorem dX5_bobberLine_86 : decode cX5_bobberLine 86 = .ok (.iconst (-1), 1) := by decide +kernel
theorem dX5_bobberLine_87 : decode cX5_bobberLine 87 = .ok (.goto 11, 3) := by decide +kernel
theorem dX5_bobberLine_90 : decode cX5_bobberLine 90 = .ok (.aload_n 0, 1) := by decide +kernel
theorem dX5_bobberLine_91 : decode cX5_bobberLine 91 = .ok (.bipush 15, 2) := by decide +kernel
theorem dX5_bobberLine_93 : decode cX5_bobberLine 93 = .ok (.iconst 0, 1) := by decide +kernel
theorem dX5_bobberLine_94 : decode cX5_bobberLine 94 = .ok (.iconst 5, 1) := by decide +kernel
theorem dX5_bobberLine_95 : decode cX5_bobberLine 95 = .ok (.invokevirtual 111, 3) := by decide +kernel
theorem dX5_bobberLine_98 : decode cX5_bobberLine 98 = .ok (.istore 4, 2) := by decide +kernel
theorem dX5_bobberLine_100 : decode cX5_bobberLine 100 = .ok (.iload 4, 2) := by decide +kernel
theorem dX5_bobberLine_102 : decode cX5_bobberLine 102 = .ok (.iconst (-1), 1) := by decide +kernel
theorem dX5_bobberLine_103 : decode cX5_bobberLine 103 = .ok (.if_icmp .ne 7, 3) := by decide +kernel
theorem dX5_bobberLine_106 : decode cX5_bobberLine 106 = .ok (.iconst (-1), 1) := by decide +kernel
theorem dX5_bobberLine_107 : decode cX5_bobberLine 107 = .ok (.goto 12, 3) := by decide +kernel
theorem dX5_bobberLine_110 : decode cX5_bobberLine 110 = .ok (.aload_n 0, 1) := by decide +kernel
theorem dX5_bobberLine_111 : decode cX5_bobberLine 111 = .ok (.bipush 16, 2) := by decide +kernel
theorem dX5_bobberLine_113 : decode cX5_bobberLine 113 = .ok (.iconst 0, 1) := by decide +kernel
theorem dX5_bobberLine_114 : decode cX5_bobberLine 114 = .ok (.bipush 20, 2) := by decide +kernel
theorem dX5_bobberLine_116 : decode cX5_bobberLine 116 = .ok (.invokevirtual 111, 3) := by decide +kernel
theorem dX5_bobberLine_119 : decode cX5_bobberLine 119 = .ok (.istore 5, 2) := by decide +kernel
theorem dX5_bobberLine_121 : decode cX5_bobberLine 121 = .ok (.iload 5, 2) := by decide +kernel
theorem dX5_bobberLine_123 : decode cX5_bobberLine 123 = .ok (.iconst (-1), 1) := by decide +kernel
theorem dX5_bobberLine_124 : decode cX5_bobberLine 124 = .ok (.if_icmp .ne 7, 3) := by decide +kernel
theorem dX5_bobberLine_127 : decode cX5_bobberLine 127 = .ok (.iconst (-1), 1) := by decide +kernel
theorem dX5_bobberLine_128 : decode cX5_bobberLine 128 = .ok (.goto 12, 3) := by decide +kernel
theorem dX5_bobberLine_131 : decode cX5_bobberLine 131 = .ok (.aload_n 0, 1) := by decide +kernel
theorem dX5_bobberLine_132 : decode cX5_bobberLine 132 = .ok (.bipush 17, 2) := by decide +kernel
theorem dX5_bobberLine_134 : decode cX5_bobberLine 134 = .ok (.iconst 0, 1) := by decide +kernel
theorem dX5_bobberLine_135 : decode cX5_bobberLine 135 = .ok (.bipush 9, 2) := by decide +kernel
theorem dX5_bobberLine_137 : decode cX5_bobberLine 137 = .ok (.invokevirtual 111, 3) := by decide +kernel
theorem dX5_bobberLine_140 : decode cX5_bobberLine 140 = .ok (.istore 6, 2) := by decide +kernel
theorem dX5_bobberLine_142 : decode cX5_bobberLine 142 = .ok (.iload 6, 2) := by decide +kernel
theorem dX5_bobberLine_144 : decode cX5_bobberLine 144 = .ok (.iconst (-1), 1) := by decide +kernel
theorem dX5_bobberLine_145 : decode cX5_bobberLine 145 = .ok (.if_icmp .ne 5, 3) := by decide +kernel
theorem dX5_bobberLine_148 : decode cX5_bobberLine 148 = .ok (.iconst 0, 1) := by decide +kernel
theorem dX5_bobberLine_149 : decode cX5_bobberLine 149 = .ok (.ireturn, 1) := by decide +kernel
theorem dX5_bobberLine_150 : decode cX5_bobberLine 150 = .ok (.aload_n 0, 1) := by decide +kernel
theorem dX5_bobberLine_151 : decode cX5_bobberLine 151 = .ok (.getfield 32, 3) := by decide +kernel
theorem dX5_bobberLine_154 : decode cX5_bobberLine 154 = .ok (.getfield 174, 3) := by decide +kernel
theorem dX5_bobberLine_157 : decode cX5_bobberLine 157 = .ok (.iload_n 1, 1) := by decide +kernel
theorem dX5_bobberLine_158 : decode cX5_bobberLine 158 = .ok (.iload_n 2, 1) := by decide +kernel
theorem dX5_bobberLine_159 : decode cX5_bobberLine 159 = .ok (.iastore, 1) := by decide +kernel
theorem dX5_bobberLine_160 : decode cX5_bobberLine 160 = .ok (.aload_n 0, 1) := by decide +kernel
theorem dX5_bobberLine_161 : decode cX5_bobberLine 161 = .ok (.getfield 32, 3) := by decide +kernel
theorem dX5_bobberLine_164 : decode cX5_bobberLine 164 = .ok (.getfield 177, 3) := by decide +kernel
theorem dX5_bobberLine_167 : decode cX5_bobberLine 167 = .ok (.iload_n 1, 1) := by decide +kernel
theorem dX5_bobberLine_168 : decode cX5_bobberLine 168 = .ok (.iload_n 3, 1) := by decide +kernel
theorem dX5_bobberLine_169 : decode cX5_bobberLine 169 = .ok (.iastore, 1) := by decide +kernel
theorem dX5_bobberLine_170 : decode cX5_bobberLine 170 = .ok (.aload_n 0, 1) := by decide +kernel
theorem dX5_bobberLine_171 : decode cX5_bobberLine 171 = .ok (.getfield 32, 3) := by decide +kernel
theorem dX5_bobberLine_174 : decode cX5_bobberLine 174 = .ok (.getfield 180, 3) := by decide +kernel
theorem dX5_bobberLine_177 : decode cX5_bobberLine 177 = .ok (.iload_n 1, 1) := by decide +kernel
theorem dX5_bobberLine_178 : decode cX5_bobberLine 178 = .ok (.iload 4, 2) := by decide +kernel
theorem dX5_bobberLine_180 : decode cX5_bobberLine 180 = .ok (.iastore, 1) := by decide +kernel
theorem dX5_bobberLine_181 : decode cX5_bobberLine 181 = .ok (.aload_n 0, 1) := by decide +kernel
theorem dX5_bobberLine_182 : decode cX5_bobberLine 182 = .ok (.getfield 32, 3) := by decide +kernel
theorem dX5_bobberLine_185 : decode cX5_bobberLine 185 = .ok (.getfield 183, 3) := by decide +kernel
theorem dX5_bobberLine_188 : decode cX5_bobberLine 188 = .ok (.iload_n 1, 1) := by decide +kernel
theorem dX5_bobberLine_189 : decode cX5_bobberLine 189 = .ok (.iload 5, 2) := by decide +kernel
theorem dX5_bobberLine_191 : decode cX5_bobberLine 191 = .ok (.iastore, 1) := by decide +kernel
theorem dX5_bobberLine_192 : decode cX5_bobberLine 192 = .ok (.aload_n 0, 1) := by decide +kernel
theorem dX5_bobberLine_193 : decode cX5_bobberLine 193 = .ok (.getfield 32, 3) := by decide +kernel
theorem dX5_bobberLine_196 : decode cX5_bobberLine 196 = .ok (.getfield 186, 3) := by decide +kernel
theorem dX5_bobberLine_199 : decode cX5_bobberLine 199 = .ok (.iload_n 1, 1) := by decide +kernel
theorem dX5_bobberLine_200 : decode cX5_bobberLine 200 = .ok (.iload 6, 2) := by decide +kernel
theorem dX5_bobberLine_202 : decode cX5_bobberLine 202 = .ok (.iastore, 1) := by decide +kernel
theorem dX5_bobberLine_203 : decode cX5_bobberLine 203 = .ok (.aload_n 0, 1) := by decide +kernel
theorem dX5_bobberLine_204 : decode cX5_bobberLine 204 = .ok (.getfield 32, 3) := by decide +kernel
theorem dX5_bobberLine_207 : decode cX5_bobberLine 207 = .ok (.getfield 189, 3) := by decide +kernel
theorem dX5_bobberLine_210 : decode cX5_bobberLine 210 = .ok (.iload_n 1, 1) := by decide +kernel
theorem dX5_bobberLine_211 : decode cX5_bobberLine 211 = .ok (.iconst 0, 1) := by decide +kernel
theorem dX5_bobberLine_212 : decode cX5_bobberLine 212 = .ok (.iastore, 1) := by decide +kernel
theorem dX5_bobberLine_213 : decode cX5_bobberLine 213 = .ok (.aload_n 0, 1) := by decide +kernel
theorem dX5_bobberLine_214 : decode cX5_bobberLine 214 = .ok (.getfield 32, 3) := by decide +kernel
theorem dX5_bobberLine_217 : decode cX5_bobberLine 217 = .ok (.dup, 1) := by decide +kernel
theorem dX5_bobberLine_218 : decode cX5_bobberLine 218 = .ok (.getfield 171, 3) := by decide +kernel
theorem dX5_bobberLine_221 : decode cX5_bobberLine 221 = .ok (.iconst 1, 1) := by decide +kernel
theorem dX5_bobberLine_222 : decode cX5_bobberLine 222 = .ok (.iadd, 1) := by decide +kernel
theorem dX5_bobberLine_223 : decode cX5_bobberLine 223 = .ok (.putfield 171, 3) := by decide +kernel
theorem dX5_bobberLine_226 : decode cX5_bobberLine 226 = .ok (.aload_n 0, 1) := by decide +kernel
theorem dX5_bobberLine_227 : decode cX5_bobberLine 227 = .ok (.iconst 1, 1) := by decide +kernel
theorem dX5_bobberLine_228 : decode cX5_bobberLine 228 = .ok (.invokevirtual 165, 3) := by decide +kernel
theorem dX5_bobberLine_231 : decode cX5_bobberLine 231 = .ok (.ifCond .eq 11, 3) := by decide +kernel
theorem dX5_bobberLine_234 : decode cX5_bobberLine 234 = .ok (.aload_n 0, 1) := by decide +kernel
theorem dX5_bobberLine_235 : decode cX5_bobberLine 235 = .ok (.iload_n 1, 1) := by decide +kernel
theorem dX5_bobberLine_236 : decode cX5_bobberLine 236 = .ok (.invokevirtual 192, 3) := by decide +kernel
theorem dX5_bobberLine_239 : decode cX5_bobberLine 239 = .ok (.ifCond .eq 7, 3) := by decide +kernel
theorem dX5_bobberLine_242 : decode cX5_bobberLine 242 = .ok (.iconst 1, 1) := by decide +kernel
theorem dX5_bobberLine_243 : decode cX5_bobberLine 243 = .ok (.goto 4, 3) := by decide +kernel
theorem dX5_bobberLine_246 : decode cX5_bobberLine 246 = .ok (.iconst 0, 1) := by decide +kernel
theorem dX5_bobberLine_247 : decode cX5_bobberLine 247 = .ok (.ireturn, 1) := by decide +kernel
theorem dX5_ruleToldAhead_0 : decode cX5_ruleToldAhead 0 = .ok (.aload_n 0, 1) := by decide +kernel
theorem dX5_ruleToldAhead_1 : decode cX5_ruleToldAhead 1 = .ok (.getfield 12, 3) := by decide +kernel
theorem dX5_ruleToldAhead_4 : decode cX5_ruleToldAhead 4 = .ok (.getfield 55, 3) := by decide +kernel
theorem dX5_ruleToldAhead_7 : decode cX5_ruleToldAhead 7 = .ok (.bipush 26, 2) := by decide +kernel
theorem dX5_ruleToldAhead_9 : decode cX5_ruleToldAhead 9 = .ok (.if_icmp .eq 9, 3) := by decide +kernel
theorem dX5_ruleToldAhead_12 : decode cX5_ruleToldAhead 12 = .ok (.aload_n 0, 1) := by decide +kernel
theorem dX5_ruleToldAhead_13 : decode cX5_ruleToldAhead 13 = .ok (.iconst 2, 1) := by decide +kernel
theorem dX5_ruleToldAhead_14 : decode cX5_ruleToldAhead 14 = .ok (.invokevirtual 66, 3) := by decide +kernel
theorem dX5_ruleToldAhead_17 : decode cX5_ruleToldAhead 17 = .ok (.ireturn, 1) := by decide +kernel
theorem dX5_ruleToldAhead_18 : decode cX5_ruleToldAhead 18 = .ok (.aload_n 0, 1) := by decide +kernel
theorem dX5_ruleToldAhead_19 : decode cX5_ruleToldAhead 19 = .ok (.aload_n 0, 1) := by decide +kernel
theorem dX5_ruleToldAhead_20 : decode cX5_ruleToldAhead 20 = .ok (.getfield 18, 3) := by decide +kernel
theorem dX5_ruleToldAhead_23 : decode cX5_ruleToldAhead 23 = .ok (.aload_n 0, 1) := by decide +kernel
theorem dX5_ruleToldAhead_24 : decode cX5_ruleToldAhead 24 = .ok (.getfield 32, 3) := by decide +kernel
theorem dX5_ruleToldAhead_27 : decode cX5_ruleToldAhead 27 = .ok (.getfield 130, 3) := by decide +kernel
theorem dX5_ruleToldAhead_30 : decode cX5_ruleToldAhead 30 = .ok (.invokevirtual 103, 3) := by decide +kernel
theorem dX5_ruleToldAhead_33 : decode cX5_ruleToldAhead 33 = .ok (.istore_n 2, 1) := by decide +kernel
theorem dX5_ruleToldAhead_34 : decode cX5_ruleToldAhead 34 = .ok (.iload_n 2, 1) := by decide +kernel
theorem dX5_ruleToldAhead_35 : decode cX5_ruleToldAhead 35 = .ok (.iconst (-1), 1) := by decide +kernel
theorem dX5_ruleToldAhead_36 : decode cX5_ruleToldAhead 36 = .ok (.if_icmp .ne 9, 3) := by decide +kernel
theorem dX5_ruleToldAhead_39 : decode cX5_ruleToldAhead 39 = .ok (.aload_n 0, 1) := by decide +kernel
theorem dX5_ruleToldAhead_40 : decode cX5_ruleToldAhead 40 = .ok (.iconst 5, 1) := by decide +kernel
theorem dX5_ruleToldAhead_41 : decode cX5_ruleToldAhead 41 = .ok (.invokevirtual 66, 3) := by decide +kernel
theorem dX5_ruleToldAhead_44 : decode cX5_ruleToldAhead 44 = .ok (.ireturn, 1) := by decide +kernel
theorem dX5_ruleToldAhead_45 : decode cX5_ruleToldAhead 45 = .ok (.aload_n 0, 1) := by decide +kernel
theorem dX5_ruleToldAhead_46 : decode cX5_ruleToldAhead 46 = .ok (.getfield 32, 3) := by decide +kernel
theorem dX5_ruleToldAhead_49 : decode cX5_ruleToldAhead 49 = .ok (.getfield 189, 3) := by decide +kernel
theorem dX5_ruleToldAhead_52 : decode cX5_ruleToldAhead 52 = .ok (.iload_n 1, 1) := by decide +kernel
theorem dX5_ruleToldAhead_53 : decode cX5_ruleToldAhead 53 = .ok (.iload_n 2, 1) := by decide +kernel
theorem dX5_ruleToldAhead_54 : decode cX5_ruleToldAhead 54 = .ok (.iastore, 1) := by decide +kernel
theorem dX5_ruleToldAhead_55 : decode cX5_ruleToldAhead 55 = .ok (.aload_n 0, 1) := by decide +kernel
theorem dX5_ruleToldAhead_56 : decode cX5_ruleToldAhead 56 = .ok (.getfield 12, 3) := by decide +kernel
theorem dX5_ruleToldAhead_59 : decode cX5_ruleToldAhead 59 = .ok (.invokevirtual 94, 3) := by decide +kernel
theorem dX5_ruleToldAhead_62 : decode cX5_ruleToldAhead 62 = .ok (.iconst 1, 1) := by decide +kernel
theorem dX5_ruleToldAhead_63 : decode cX5_ruleToldAhead 63 = .ok (.ireturn, 1) := by decide +kernel
theorem dX5_formula_0 : decode cX5_formula 0 = .ok (.aload_n 0, 1) := by decide +kernel
theorem dX5_formula_1 : decode cX5_formula 1 = .ok (.iconst 0, 1) := by decide +kernel
theorem dX5_formula_2 : decode cX5_formula 2 = .ok (.putfield 195, 3) := by decide +kernel
theorem dX5_formula_5 : decode cX5_formula 5 = .ok (.aload_n 0, 1) := by decide +kernel
theorem dX5_formula_6 : decode cX5_formula 6 = .ok (.getfield 32, 3) := by decide +kernel
theorem dX5_formula_9 : decode cX5_formula 9 = .ok (.getfield 118, 3) := by decide +kernel
theorem dX5_formula_12 : decode cX5_formula 12 = .ok (.iload_n 1, 1) := by decide +kernel
theorem dX5_formula_13 : decode cX5_formula 13 = .ok (.invokevirtual 198, 3) := by decide +kernel
theorem dX5_formula_16 : decode cX5_formula 16 = .ok (.aload_n 0, 1) := by decide +kernel
theorem dX5_formula_17 : decode cX5_formula 17 = .ok (.iconst 0, 1) := by decide +kernel
theorem dX5_formula_18 : decode cX5_formula 18 = .ok (.invokevirtual 202, 3) := by decide +kernel
theorem dX5_formula_21 : decode cX5_formula 21 = .ok (.istore_n 2, 1) := by decide +kernel
theorem dX5_formula_22 : decode cX5_formula 22 = .ok (.aload_n 0, 1) := by decide +kernel
theorem dX5_formula_23 : decode cX5_formula 23 = .ok (.getfield 32, 3) := by decide +kernel
theorem dX5_formula_26 : decode cX5_formula 26 = .ok (.getfield 118, 3) := by decide +kernel
theorem dX5_formula_29 : decode cX5_formula 29 = .ok (.iload_n 1, 1) := by decide +kernel
theorem dX5_formula_30 : decode cX5_formula 30 = .ok (.invokevirtual 205, 3) := by decide +kernel
theorem dX5_formula_33 : decode cX5_formula 33 = .ok (.iload_n 2, 1) := by decide +kernel
theorem dX5_formula_34 : decode cX5_formula 34 = .ok (.ireturn, 1) := by decide +kernel
theorem dX5_either_0 : decode cX5_either 0 = .ok (.aload_n 0, 1) := by decide +kernel
theorem dX5_either_1 : decode cX5_either 1 = .ok (.iload_n 1, 1) := by decide +kernel
theorem dX5_either_2 : decode cX5_either 2 = .ok (.invokevirtual 208, 3) := by decide +kernel
theorem dX5_either_5 : decode cX5_either 5 = .ok (.istore_n 2, 1) := by decide +kernel
theorem dX5_either_6 : decode cX5_either 6 = .ok (.iconst 0, 1) := by decide +kernel
theorem dX5_either_7 : decode cX5_either 7 = .ok (.istore_n 3, 1) := by decide +kernel
theorem dX5_either_8 : decode cX5_either 8 = .ok (.iload_n 3, 1) := by decide +kernel
theorem dX5_either_9 : decode cX5_either 9 = .ok (.sipush 1600, 3) := by decide +kernel
theorem dX5_either_12 : decode cX5_either 12 = .ok (.if_icmp .ge 50, 3) := by decide +kernel
theorem dX5_either_15 : decode cX5_either 15 = .ok (.iload_n 2, 1) := by decide +kernel
theorem dX5_either_16 : decode cX5_either 16 = .ok (.ifCond .eq 46, 3) := by decide +kernel
theorem dX5_either_19 : decode cX5_either 19 = .ok (.aload_n 0, 1) := by decide +kernel
theorem dX5_either_20 : decode cX5_either 20 = .ok (.getfield 12, 3) := by decide +kernel
theorem dX5_either_23 : decode cX5_either 23 = .ok (.getfield 55, 3) := by decide +kernel
theorem dX5_either_26 : decode cX5_either 26 = .ok (.bipush 23, 2) := by decide +kernel
theorem dX5_either_28 : decode cX5_either 28 = .ok (.if_icmp .ne 34, 3) := by decide +kernel
theorem dX5_either_31 : decode cX5_either 31 = .ok (.aload_n 0, 1) := by decide +kernel
theorem dX5_either_32 : decode cX5_either 32 = .ok (.getfield 12, 3) := by decide +kernel
theorem dX5_either_35 : decode cX5_either 35 = .ok (.invokevirtual 94, 3) := by decide +kernel
theorem dX5_either_38 : decode cX5_either 38 = .ok (.aload_n 0, 1) := by decide +kernel
theorem dX5_either_39 : decode cX5_either 39 = .ok (.iload_n 1, 1) := by decide +kernel
theorem dX5_either_40 : decode cX5_either 40 = .ok (.invokevirtual 208, 3) := by decide +kernel
theorem dX5_either_43 : decode cX5_either 43 = .ok (.istore_n 2, 1) := by decide +kernel
theorem dX5_either_44 : decode cX5_either 44 = .ok (.aload_n 0, 1) := by decide +kernel
theorem dX5_either_45 : decode cX5_either 45 = .ok (.getfield 32, 3) := by decide +kernel
theorem dX5_either_48 : decode cX5_either 48 = .ok (.getfield 118, 3) := by decide +kernel
theorem dX5_either_51 : decode cX5_either 51 = .ok (.bipush 23, 2) := by decide +kernel
theorem dX5_either_53 : decode cX5_either 53 = .ok (.invokevirtual 211, 3) := by decide +kernel
theorem dX5_either_56 : decode cX5_either 56 = .ok (.iinc 3 1, 3) := by decide +kernel
theorem dX5_either_59 : decode cX5_either 59 = .ok (.goto (-51), 3) := by decide +kernel
theorem dX5_either_62 : decode cX5_either 62 = .ok (.iload_n 2, 1) := by decide +kernel
theorem dX5_either_63 : decode cX5_either 63 = .ok (.ireturn, 1) := by decide +kernel
theorem dX5_both_0 : decode cX5_both 0 = .ok (.aload_n 0, 1) := by decide +kernel
theorem dX5_both_1 : decode cX5_both 1 = .ok (.iload_n 1, 1) := by decide +kernel
theorem dX5_both_2 : decode cX5_both 2 = .ok (.invokevirtual 214, 3) := by decide +kernel
theorem dX5_both_5 : decode cX5_both 5 = .ok (.istore_n 2, 1) := by decide +kernel
theorem dX5_both_6 : decode cX5_both 6 = .ok (.iconst 0, 1) := by decide +kernel
theorem dX5_both_7 : decode cX5_both 7 = .ok (.istore_n 3, 1) := by decide +kernel
theorem dX5_both_8 : decode cX5_both 8 = .ok (.iload_n 3, 1) := by decide +kernel
theorem dX5_both_9 : decode cX5_both 9 = .ok (.sipush 1600, 3) := by decide +kernel
theorem dX5_both_12 : decode cX5_both 12 = .ok (.if_icmp .ge 50, 3) := by decide +kernel
theorem dX5_both_15 : decode cX5_both 15 = .ok (.iload_n 2, 1) := by decide +kernel
theorem dX5_both_16 : decode cX5_both 16 = .ok (.ifCond .eq 46, 3) := by decide +kernel
theorem dX5_both_19 : decode cX5_both 19 = .ok (.aload_n 0, 1) := by decide +kernel
theorem dX5_both_20 : decode cX5_both 20 = .ok (.getfield 12, 3) := by decide +kernel
theorem dX5_both_23 : decode cX5_both 23 = .ok (.getfield 55, 3) := by decide +kernel
theorem dX5_both_26 : decode cX5_both 26 = .ok (.bipush 24, 2) := by decide +kernel
theorem dX5_both_28 : decode cX5_both 28 = .ok (.if_icmp .ne 34, 3) := by decide +kernel
theorem dX5_both_31 : decode cX5_both 31 = .ok (.aload_n 0, 1) := by decide +kernel
theorem dX5_both_32 : decode cX5_both 32 = .ok (.getfield 12, 3) := by decide +kernel
theorem dX5_both_35 : decode cX5_both 35 = .ok (.invokevirtual 94, 3) := by decide +kernel
theorem dX5_both_38 : decode cX5_both 38 = .ok (.aload_n 0, 1) := by decide +kernel
theorem dX5_both_39 : decode cX5_both 39 = .ok (.iload_n 1, 1) := by decide +kernel
theorem dX5_both_40 : decode cX5_both 40 = .ok (.invokevirtual 214, 3) := by decide +kernel
theorem dX5_both_43 : decode cX5_both 43 = .ok (.istore_n 2, 1) := by decide +kernel
theorem dX5_both_44 : decode cX5_both 44 = .ok (.aload_n 0, 1) := by decide +kernel
theorem dX5_both_45 : decode cX5_both 45 = .ok (.getfield 32, 3) := by decide +kernel
theorem dX5_both_48 : decode cX5_both 48 = .ok (.getfield 118, 3) := by decide +kernel
theorem dX5_both_51 : decode cX5_both 51 = .ok (.bipush 24, 2) := by decide +kernel
theorem dX5_both_53 : decode cX5_both 53 = .ok (.invokevirtual 211, 3) := by decide +kernel
theorem dX5_both_56 : decode cX5_both 56 = .ok (.iinc 3 1, 3) := by decide +kernel
theorem dX5_both_59 : decode cX5_both 59 = .ok (.goto (-51), 3) := by decide +kernel
theorem dX5_both_62 : decode cX5_both 62 = .ok (.iload_n 2, 1) := by decide +kernel
theorem dX5_both_63 : decode cX5_both 63 = .ok (.ireturn, 1) := by decide +kernel
theorem dX5_one_0 : decode cX5_one 0 = .ok (.aload_n 0, 1) := by decide +kernel
theorem dX5_one_1 : decode cX5_one 1 = .ok (.getfield 12, 3) := by decide +kernel
theorem dX5_one_4 : decode cX5_one 4 = .ok (.getfield 55, 3) := by decide +kernel
theorem dX5_one_7 : decode cX5_one 7 = .ok (.bipush 25, 2) := by decide +kernel
theorem dX5_one_9 : decode cX5_one 9 = .ok (.if_icmp .ne 11, 3) := by decide +kernel
theorem dX5_one_12 : decode cX5_one 12 = .ok (.aload_n 0, 1) := by decide +kernel
theorem dX5_one_13 : decode cX5_one 13 = .ok (.iload_n 1, 1) := by decide +kernel
theorem dX5_one_14 : decode cX5_one 14 = .ok (.invokevirtual 217, 3) := by decide +kernel
theorem dX5_one_17 : decode cX5_one 17 = .ok (.goto 8, 3) := by decide +kernel
theorem dX5_one_20 : decode cX5_one 20 = .ok (.aload_n 0, 1) := by decide +kernel
theorem dX5_one_21 : decode cX5_one 21 = .ok (.iload_n 1, 1) := by decide +kernel
theorem dX5_one_22 : decode cX5_one 22 = .ok (.invokevirtual 220, 3) := by decide +kernel
theorem dX5_one_25 : decode cX5_one 25 = .ok (.ireturn, 1) := by decide +kernel
theorem dX5_opposite_0 : decode cX5_opposite 0 = .ok (.iload_n 1, 1) := by decide +kernel
theorem dX5_opposite_1 : decode cX5_opposite 1 = .ok (.bipush 6, 2) := by decide +kernel
theorem dX5_opposite_3 : decode cX5_opposite 3 = .ok (.if_icmp .le 9, 3) := by decide +kernel
theorem dX5_opposite_6 : decode cX5_opposite 6 = .ok (.aload_n 0, 1) := by decide +kernel
theorem dX5_opposite_7 : decode cX5_opposite 7 = .ok (.iconst 2, 1) := by decide +kernel
theorem dX5_opposite_8 : decode cX5_opposite 8 = .ok (.invokevirtual 66, 3) := by decide +kernel
theorem dX5_opposite_11 : decode cX5_opposite 11 = .ok (.ireturn, 1) := by decide +kernel
theorem dX5_opposite_12 : decode cX5_opposite 12 = .ok (.aload_n 0, 1) := by decide +kernel
theorem dX5_opposite_13 : decode cX5_opposite 13 = .ok (.getfield 12, 3) := by decide +kernel
theorem dX5_opposite_16 : decode cX5_opposite 16 = .ok (.invokevirtual 94, 3) := by decide +kernel
theorem dX5_opposite_19 : decode cX5_opposite 19 = .ok (.aload_n 0, 1) := by decide +kernel
theorem dX5_opposite_20 : decode cX5_opposite 20 = .ok (.iload_n 1, 1) := by decide +kernel
theorem dX5_opposite_21 : decode cX5_opposite 21 = .ok (.iconst 1, 1) := by decide +kernel
theorem dX5_opposite_22 : decode cX5_opposite 22 = .ok (.iadd, 1) := by decide +kernel
theorem dX5_opposite_23 : decode cX5_opposite 23 = .ok (.invokevirtual 214, 3) := by decide +kernel
theorem dX5_opposite_26 : decode cX5_opposite 26 = .ok (.istore_n 2, 1) := by decide +kernel
theorem dX5_opposite_27 : decode cX5_opposite 27 = .ok (.aload_n 0, 1) := by decide +kernel
theorem dX5_opposite_28 : decode cX5_opposite 28 = .ok (.getfield 32, 3) := by decide +kernel
theorem dX5_opposite_31 : decode cX5_opposite 31 = .ok (.getfield 118, 3) := by decide +kernel
theorem dX5_opposite_34 : decode cX5_opposite 34 = .ok (.bipush 25, 2) := by decide +kernel
theorem dX5_opposite_36 : decode cX5_opposite 36 = .ok (.invokevirtual 211, 3) := by decide +kernel
theorem dX5_opposite_39 : decode cX5_opposite 39 = .ok (.iload_n 2, 1) := by decide +kernel
theorem dX5_opposite_40 : decode cX5_opposite 40 = .ok (.ireturn, 1) := by decide +kernel
theorem dX5_comparison_0 : decode cX5_comparison 0 = .ok (.aload_n 0, 1) := by decide +kernel
theorem dX5_comparison_1 : decode cX5_comparison 1 = .ok (.iload_n 1, 1) := by decide +kernel
theorem dX5_comparison_2 : decode cX5_comparison 2 = .ok (.invokevirtual 223, 3) := by decide +kernel
theorem dX5_comparison_5 : decode cX5_comparison 5 = .ok (.istore_n 2, 1) := by decide +kernel
theorem dX5_comparison_6 : decode cX5_comparison 6 = .ok (.aload_n 0, 1) := by decide +kernel
theorem dX5_comparison_7 : decode cX5_comparison 7 = .ok (.getfield 12, 3) := by decide +kernel
theorem dX5_comparison_10 : decode cX5_comparison 10 = .ok (.getfield 55, 3) := by decide +kernel
theorem dX5_comparison_13 : decode cX5_comparison 13 = .ok (.istore_n 3, 1) := by decide +kernel
theorem dX5_comparison_14 : decode cX5_comparison 14 = .ok (.iload_n 2, 1) := by decide +kernel
theorem dX5_comparison_15 : decode cX5_comparison 15 = .ok (.ifCond .eq 45, 3) := by decide +kernel
theorem dX5_comparison_18 : decode cX5_comparison 18 = .ok (.iload_n 3, 1) := by decide +kernel
theorem dX5_comparison_19 : decode cX5_comparison 19 = .ok (.bipush 60, 2) := by decide +kernel
theorem dX5_comparison_21 : decode cX5_comparison 21 = .ok (.if_icmp .eq 15, 3) := by decide +kernel
theorem dX5_comparison_24 : decode cX5_comparison 24 = .ok (.iload_n 3, 1) := by decide +kernel
theorem dX5_comparison_25 : decode cX5_comparison 25 = .ok (.bipush 62, 2) := by decide +kernel
theorem dX5_comparison_27 : decode cX5_comparison 27 = .ok (.if_icmp .eq 9, 3) := by decide +kernel
theorem dX5_comparison_30 : decode cX5_comparison 30 = .ok (.iload_n 3, 1) := by decide +kernel
theorem dX5_comparison_31 : decode cX5_comparison 31 = .ok (.bipush 61, 2) := by decide +kernel
theorem dX5_comparison_33 : decode cX5_comparison 33 = .ok (.if_icmp .ne 27, 3) := by decide +kernel
theorem dX5_comparison_36 : decode cX5_comparison 36 = .ok (.aload_n 0, 1) := by decide +kernel
theorem dX5_comparison_37 : decode cX5_comparison 37 = .ok (.getfield 12, 3) := by decide +kernel
theorem dX5_comparison_40 : decode cX5_comparison 40 = .ok (.invokevirtual 94, 3) := by decide +kernel
theorem dX5_comparison_43 : decode cX5_comparison 43 = .ok (.aload_n 0, 1) := by decide +kernel
theorem dX5_comparison_44 : decode cX5_comparison 44 = .ok (.iload_n 1, 1) := by decide +kernel
theorem dX5_comparison_45 : decode cX5_comparison 45 = .ok (.invokevirtual 223, 3) := by decide +kernel
theorem dX5_comparison_48 : decode cX5_comparison 48 = .ok (.istore_n 2, 1) := by decide +kernel
theorem dX5_comparison_49 : decode cX5_comparison 49 = .ok (.aload_n 0, 1) := by decide +kernel
theorem dX5_comparison_50 : decode cX5_comparison 50 = .ok (.getfield 32, 3) := by decide +kernel
theorem dX5_comparison_53 : decode cX5_comparison 53 = .ok (.getfield 118, 3) := by decide +kernel
theorem dX5_comparison_56 : decode cX5_comparison 56 = .ok (.iload_n 3, 1) := by decide +kernel
theorem dX5_comparison_57 : decode cX5_comparison 57 = .ok (.invokevirtual 211, 3) := by decide +kernel
theorem dX5_comparison_60 : decode cX5_comparison 60 = .ok (.iload_n 2, 1) := by decide +kernel
theorem dX5_comparison_61 : decode cX5_comparison 61 = .ok (.ireturn, 1) := by decide +kernel
theorem dX5_sum_0 : decode cX5_sum 0 = .ok (.aload_n 0, 1) := by decide +kernel
theorem dX5_sum_1 : decode cX5_sum 1 = .ok (.iload_n 1, 1) := by decide +kernel
theorem dX5_sum_2 : decode cX5_sum 2 = .ok (.invokevirtual 226, 3) := by decide +kernel
theorem dX5_sum_5 : decode cX5_sum 5 = .ok (.istore_n 2, 1) := by decide +kernel
theorem dX5_sum_6 : decode cX5_sum 6 = .ok (.iconst 0, 1) := by decide +kernel
theorem dX5_sum_7 : decode cX5_sum 7 = .ok (.istore_n 3, 1) := by decide +kernel
theorem dX5_sum_8 : decode cX5_sum 8 = .ok (.iload_n 3, 1) := by decide +kernel
theorem dX5_sum_9 : decode cX5_sum 9 = .ok (.sipush 1600, 3) := by decide +kernel
theorem dX5_sum_12 : decode cX5_sum 12 = .ok (.if_icmp .ge 71, 3) := by decide +kernel
theorem dX5_sum_15 : decode cX5_sum 15 = .ok (.iload_n 2, 1) := by decide +kernel
theorem dX5_sum_16 : decode cX5_sum 16 = .ok (.ifCond .eq 67, 3) := by decide +kernel
theorem dX5_sum_19 : decode cX5_sum 19 = .ok (.aload_n 0, 1) := by decide +kernel
theorem dX5_sum_20 : decode cX5_sum 20 = .ok (.getfield 12, 3) := by decide +kernel
theorem dX5_sum_23 : decode cX5_sum 23 = .ok (.getfield 55, 3) := by decide +kernel
theorem dX5_sum_26 : decode cX5_sum 26 = .ok (.bipush 43, 2) := by decide +kernel
theorem dX5_sum_28 : decode cX5_sum 28 = .ok (.if_icmp .eq 15, 3) := by decide +kernel
theorem dX5_sum_31 : decode cX5_sum 31 = .ok (.aload_n 0, 1) := by decide +kernel
theorem dX5_sum_32 : decode cX5_sum 32 = .ok (.getfield 12, 3) := by decide +kernel
theorem dX5_sum_35 : decode cX5_sum 35 = .ok (.getfield 55, 3) := by decide +kernel
theorem dX5_sum_38 : decode cX5_sum 38 = .ok (.bipush 45, 2) := by decide +kernel
theorem dX5_sum_40 : decode cX5_sum 40 = .ok (.if_icmp .ne 43, 3) := by decide +kernel
theorem dX5_sum_43 : decode cX5_sum 43 = .ok (.aload_n 0, 1) := by decide +kernel
theorem dX5_sum_44 : decode cX5_sum 44 = .ok (.getfield 12, 3) := by decide +kernel
theorem dX5_sum_47 : decode cX5_sum 47 = .ok (.getfield 55, 3) := by decide +kernel
theorem dX5_sum_50 : decode cX5_sum 50 = .ok (.istore 4, 2) := by decide +kernel
theorem dX5_sum_52 : decode cX5_sum 52 = .ok (.aload_n 0, 1) := by decide +kernel
theorem dX5_sum_53 : decode cX5_sum 53 = .ok (.getfield 12, 3) := by decide +kernel
theorem dX5_sum_56 : decode cX5_sum 56 = .ok (.invokevirtual 94, 3) := by decide +kernel
theorem dX5_sum_59 : decode cX5_sum 59 = .ok (.aload_n 0, 1) := by decide +kernel
theorem dX5_sum_60 : decode cX5_sum 60 = .ok (.iload_n 1, 1) := by decide +kernel
theorem dX5_sum_61 : decode cX5_sum 61 = .ok (.invokevirtual 226, 3) := by decide +kernel
theorem dX5_sum_64 : decode cX5_sum 64 = .ok (.istore_n 2, 1) := by decide +kernel
theorem dX5_sum_65 : decode cX5_sum 65 = .ok (.aload_n 0, 1) := by decide +kernel
theorem dX5_sum_66 : decode cX5_sum 66 = .ok (.getfield 32, 3) := by decide +kernel
theorem dX5_sum_69 : decode cX5_sum 69 = .ok (.getfield 118, 3) := by decide +kernel
theorem dX5_sum_72 : decode cX5_sum 72 = .ok (.iload 4, 2) := by decide +kernel
theorem dX5_sum_74 : decode cX5_sum 74 = .ok (.invokevirtual 211, 3) := by decide +kernel
theorem dX5_sum_77 : decode cX5_sum 77 = .ok (.iinc 3 1, 3) := by decide +kernel
theorem dX5_sum_80 : decode cX5_sum 80 = .ok (.goto (-72), 3) := by decide +kernel
theorem dX5_sum_83 : decode cX5_sum 83 = .ok (.iload_n 2, 1) := by decide +kernel
theorem dX5_sum_84 : decode cX5_sum 84 = .ok (.ireturn, 1) := by decide +kernel
theorem dX5_term_0 : decode cX5_term 0 = .ok (.aload_n 0, 1) := by decide +kernel
theorem dX5_term_1 : decode cX5_term 1 = .ok (.iload_n 1, 1) := by decide +kernel
theorem dX5_term_2 : decode cX5_term 2 = .ok (.invokevirtual 229, 3) := by decide +kernel
theorem dX5_term_5 : decode cX5_term 5 = .ok (.istore_n 2, 1) := by decide +kernel
theorem dX5_term_6 : decode cX5_term 6 = .ok (.iconst 0, 1) := by decide +kernel
theorem dX5_term_7 : decode cX5_term 7 = .ok (.istore_n 3, 1) := by decide +kernel
theorem dX5_term_8 : decode cX5_term 8 = .ok (.iload_n 3, 1) := by decide +kernel
theorem dX5_term_9 : decode cX5_term 9 = .ok (.sipush 1600, 3) := by decide +kernel
theorem dX5_term_12 : decode cX5_term 12 = .ok (.if_icmp .ge 60, 3) := by decide +kernel
theorem dX5_term_15 : decode cX5_term 15 = .ok (.iload_n 2, 1) := by decide +kernel
theorem dX5_term_16 : decode cX5_term 16 = .ok (.ifCond .eq 56, 3) := by decide +kernel
theorem dX5_term_19 : decode cX5_term 19 = .ok (.aload_n 0, 1) := by decide +kernel
theorem dX5_term_20 : decode cX5_term 20 = .ok (.getfield 12, 3) := by decide +kernel
theorem dX5_term_23 : decode cX5_term 23 = .ok (.getfield 55, 3) := by decide +kernel
theorem dX5_term_26 : decode cX5_term 26 = .ok (.invokestatic 232, 3) := by decide +kernel
theorem dX5_term_29 : decode cX5_term 29 = .ok (.ifCond .eq 43, 3) := by decide +kernel
theorem dX5_term_32 : decode cX5_term 32 = .ok (.aload_n 0, 1) := by decide +kernel
theorem dX5_term_33 : decode cX5_term 33 = .ok (.getfield 12, 3) := by decide +kernel
theorem dX5_term_36 : decode cX5_term 36 = .ok (.getfield 55, 3) := by decide +kernel
theorem dX5_term_39 : decode cX5_term 39 = .ok (.istore 4, 2) := by decide +kernel
theorem dX5_term_41 : decode cX5_term 41 = .ok (.aload_n 0, 1) := by decide +kernel
theorem dX5_term_42 : decode cX5_term 42 = .ok (.getfield 12, 3) := by decide +kernel
theorem dX5_term_45 : decode cX5_term 45 = .ok (.invokevirtual 94, 3) := by decide +kernel
theorem dX5_term_48 : decode cX5_term 48 = .ok (.aload_n 0, 1) := by decide +kernel
theorem dX5_term_49 : decode cX5_term 49 = .ok (.iload_n 1, 1) := by decide +kernel
theorem dX5_term_50 : decode cX5_term 50 = .ok (.invokevirtual 229, 3) := by decide +kernel
theorem dX5_term_53 : decode cX5_term 53 = .ok (.istore_n 2, 1) := by decide +kernel
theorem dX5_term_54 : decode cX5_term 54 = .ok (.aload_n 0, 1) := by decide +kernel
theorem dX5_term_55 : decode cX5_term 55 = .ok (.getfield 32, 3) := by decide +kernel
theorem dX5_term_58 : decode cX5_term 58 = .ok (.getfield 118, 3) := by decide +kernel
theorem dX5_term_61 : decode cX5_term 61 = .ok (.iload 4, 2) := by decide +kernel
theorem dX5_term_63 : decode cX5_term 63 = .ok (.invokevirtual 211, 3) := by decide +kernel
theorem dX5_term_66 : decode cX5_term 66 = .ok (.iinc 3 1, 3) := by decide +kernel
theorem dX5_term_69 : decode cX5_term 69 = .ok (.goto (-61), 3) := by decide +kernel
theorem dX5_term_72 : decode cX5_term 72 = .ok (.iload_n 2, 1) := by decide +kernel
theorem dX5_term_73 : decode cX5_term 73 = .ok (.ireturn, 1) := by decide +kernel
theorem dX5_isTermSign_0 : decode cX5_isTermSign 0 = .ok (.iload_n 0, 1) := by decide +kernel
theorem dX5_isTermSign_1 : decode cX5_isTermSign 1 = .ok (.bipush 42, 2) := by decide +kernel
theorem dX5_isTermSign_3 : decode cX5_isTermSign 3 = .ok (.if_icmp .eq 15, 3) := by decide +kernel
theorem dX5_isTermSign_6 : decode cX5_isTermSign 6 = .ok (.iload_n 0, 1) := by decide +kernel
theorem dX5_isTermSign_7 : decode cX5_isTermSign 7 = .ok (.bipush 47, 2) := by decide +kernel
theorem dX5_isTermSign_9 : decode cX5_isTermSign 9 = .ok (.if_icmp .eq 9, 3) := by decide +kernel
theorem dX5_isTermSign_12 : decode cX5_isTermSign 12 = .ok (.iload_n 0, 1) := by decide +kernel
theorem dX5_isTermSign_13 : decode cX5_isTermSign 13 = .ok (.bipush 37, 2) := by decide +kernel
theorem dX5_isTermSign_15 : decode cX5_isTermSign 15 = .ok (.if_icmp .ne 7, 3) := by decide +kernel
theorem dX5_isTermSign_18 : decode cX5_isTermSign 18 = .ok (.iconst 1, 1) := by decide +kernel
theorem dX5_isTermSign_19 : decode cX5_isTermSign 19 = .ok (.goto 4, 3) := by decide +kernel
theorem dX5_isTermSign_22 : decode cX5_isTermSign 22 = .ok (.iconst 0, 1) := by decide +kernel
theorem dX5_isTermSign_23 : decode cX5_isTermSign 23 = .ok (.ireturn, 1) := by decide +kernel
theorem dX5_unit_0 : decode cX5_unit 0 = .ok (.aload_n 0, 1) := by decide +kernel
theorem dX5_unit_1 : decode cX5_unit 1 = .ok (.getfield 195, 3) := by decide +kernel
theorem dX5_unit_4 : decode cX5_unit 4 = .ok (.bipush 30, 2) := by decide +kernel
theorem dX5_unit_6 : decode cX5_unit 6 = .ok (.if_icmp .ge 18, 3) := by decide +kernel
theorem dX5_unit_9 : decode cX5_unit 9 = .ok (.aload_n 0, 1) := by decide +kernel
theorem dX5_unit_10 : decode cX5_unit 10 = .ok (.getfield 32, 3) := by decide +kernel
theorem dX5_unit_13 : decode cX5_unit 13 = .ok (.getfield 118, 3) := by decide +kernel
theorem dX5_unit_16 : decode cX5_unit 16 = .ok (.getfield 235, 3) := by decide +kernel
theorem dX5_unit_19 : decode cX5_unit 19 = .ok (.bipush 90, 2) := by decide +kernel
theorem dX5_unit_21 : decode cX5_unit 21 = .ok (.if_icmp .lt 9, 3) := by decide +kernel
theorem dX5_unit_24 : decode cX5_unit 24 = .ok (.aload_n 0, 1) := by decide +kernel
theorem dX5_unit_25 : decode cX5_unit 25 = .ok (.iconst 2, 1) := by decide +kernel
theorem dX5_unit_26 : decode cX5_unit 26 = .ok (.invokevirtual 66, 3) := by decide +kernel
theorem dX5_unit_29 : decode cX5_unit 29 = .ok (.ireturn, 1) := by decide +kernel
theorem dX5_unit_30 : decode cX5_unit 30 = .ok (.aload_n 0, 1) := by decide +kernel
theorem dX5_unit_31 : decode cX5_unit 31 = .ok (.dup, 1) := by decide +kernel
theorem dX5_unit_32 : decode cX5_unit 32 = .ok (.getfield 195, 3) := by decide +kernel
theorem dX5_unit_35 : decode cX5_unit 35 = .ok (.iconst 1, 1) := by decide +kernel
theorem dX5_unit_36 : decode cX5_unit 36 = .ok (.iadd, 1) := by decide +kernel
theorem dX5_unit_37 : decode cX5_unit 37 = .ok (.putfield 195, 3) := by decide +kernel
theorem dX5_unit_40 : decode cX5_unit 40 = .ok (.aload_n 0, 1) := by decide +kernel
theorem dX5_unit_41 : decode cX5_unit 41 = .ok (.getfield 32, 3) := by decide +kernel
theorem dX5_unit_44 : decode cX5_unit 44 = .ok (.getfield 118, 3) := by decide +kernel
theorem dX5_unit_47 : decode cX5_unit 47 = .ok (.dup, 1) := by decide +kernel
theorem dX5_unit_48 : decode cX5_unit 48 = .ok (.getfield 235, 3) := by decide +kernel
theorem dX5_unit_51 : decode cX5_unit 51 = .ok (.iconst 1, 1) := by decide +kernel
theorem dX5_unit_52 : decode cX5_unit 52 = .ok (.iadd, 1) := by decide +kernel
theorem dX5_unit_53 : decode cX5_unit 53 = .ok (.putfield 235, 3) := by decide +kernel
theorem dX5_unit_56 : decode cX5_unit 56 = .ok (.aload_n 0, 1) := by decide +kernel
theorem dX5_unit_57 : decode cX5_unit 57 = .ok (.getfield 12, 3) := by decide +kernel
theorem dX5_unit_60 : decode cX5_unit 60 = .ok (.getfield 55, 3) := by decide +kernel
theorem dX5_unit_63 : decode cX5_unit 63 = .ok (.bipush 40, 2) := by decide +kernel
theorem dX5_unit_65 : decode cX5_unit 65 = .ok (.if_icmp .ne 61, 3) := by decide +kernel
theorem dX5_unit_68 : decode cX5_unit 68 = .ok (.iload_n 1, 1) := by decide +kernel
theorem dX5_unit_69 : decode cX5_unit 69 = .ok (.bipush 6, 2) := by decide +kernel
theorem dX5_unit_71 : decode cX5_unit 71 = .ok (.if_icmp .le 9, 3) := by decide +kernel
theorem dX5_unit_74 : decode cX5_unit 74 = .ok (.aload_n 0, 1) := by decide +kernel
theorem dX5_unit_75 : decode cX5_unit 75 = .ok (.iconst 2, 1) := by decide +kernel
theorem dX5_unit_76 : decode cX5_unit 76 = .ok (.invokevirtual 66, 3) := by decide +kernel
theorem dX5_unit_79 : decode cX5_unit 79 = .ok (.ireturn, 1) := by decide +kernel
theorem dX5_unit_80 : decode cX5_unit 80 = .ok (.aload_n 0, 1) := by decide +kernel
theorem dX5_unit_81 : decode cX5_unit 81 = .ok (.getfield 12, 3) := by decide +kernel
theorem dX5_unit_84 : decode cX5_unit 84 = .ok (.invokevirtual 94, 3) := by decide +kernel
theorem dX5_unit_87 : decode cX5_unit 87 = .ok (.aload_n 0, 1) := by decide +kernel
theorem dX5_unit_88 : decode cX5_unit 88 = .ok (.iload_n 1, 1) := by decide +kernel
theorem dX5_unit_89 : decode cX5_unit 89 = .ok (.iconst 1, 1) := by decide +kernel
theorem dX5_unit_90 : decode cX5_unit 90 = .ok (.iadd, 1) := by decide +kernel
theorem dX5_unit_91 : decode cX5_unit 91 = .ok (.invokevirtual 202, 3) := by decide +kernel
theorem dX5_unit_94 : decode cX5_unit 94 = .ok (.ifCond .ne 5, 3) := by decide +kernel
theorem dX5_unit_97 : decode cX5_unit 97 = .ok (.iconst 0, 1) := by decide +kernel
theorem dX5_unit_98 : decode cX5_unit 98 = .ok (.ireturn, 1) := by decide +kernel
theorem dX5_unit_99 : decode cX5_unit 99 = .ok (.aload_n 0, 1) := by decide +kernel
theorem dX5_unit_100 : decode cX5_unit 100 = .ok (.getfield 12, 3) := by decide +kernel
theorem dX5_unit_103 : decode cX5_unit 103 = .ok (.getfield 55, 3) := by decide +kernel
theorem dX5_unit_106 : decode cX5_unit 106 = .ok (.bipush 41, 2) := by decide +kernel
theorem dX5_unit_108 : decode cX5_unit 108 = .ok (.if_icmp .eq 9, 3) := by decide +kernel
theorem dX5_unit_111 : decode cX5_unit 111 = .ok (.aload_n 0, 1) := by decide +kernel
theorem dX5_unit_112 : decode cX5_unit 112 = .ok (.iconst 2, 1) := by decide +kernel
theorem dX5_unit_113 : decode cX5_unit 113 = .ok (.invokevirtual 66, 3) := by decide +kernel
theorem dX5_unit_116 : decode cX5_unit 116 = .ok (.ireturn, 1) := by decide +kernel
theorem dX5_unit_117 : decode cX5_unit 117 = .ok (.aload_n 0, 1) := by decide +kernel
theorem dX5_unit_118 : decode cX5_unit 118 = .ok (.getfield 12, 3) := by decide +kernel
theorem dX5_unit_121 : decode cX5_unit 121 = .ok (.invokevirtual 94, 3) := by decide +kernel
theorem dX5_unit_124 : decode cX5_unit 124 = .ok (.iconst 1, 1) := by decide +kernel
theorem dX5_unit_125 : decode cX5_unit 125 = .ok (.ireturn, 1) := by decide +kernel
theorem dX5_unit_126 : decode cX5_unit 126 = .ok (.aload_n 0, 1) := by decide +kernel
theorem dX5_unit_127 : decode cX5_unit 127 = .ok (.getfield 12, 3) := by decide +kernel
theorem dX5_unit_130 : decode cX5_unit 130 = .ok (.getfield 55, 3) := by decide +kernel
theorem dX5_unit_133 : decode cX5_unit 133 = .ok (.invokestatic 238, 3) := by decide +kernel
theorem dX5_unit_136 : decode cX5_unit 136 = .ok (.istore_n 2, 1) := by decide +kernel
theorem dX5_unit_137 : decode cX5_unit 137 = .ok (.aload_n 0, 1) := by decide +kernel
theorem dX5_unit_138 : decode cX5_unit 138 = .ok (.getfield 12, 3) := by decide +kernel
theorem dX5_unit_141 : decode cX5_unit 141 = .ok (.getfield 55, 3) := by decide +kernel
theorem dX5_unit_144 : decode cX5_unit 144 = .ok (.bipush 27, 2) := by decide +kernel
theorem dX5_unit_146 : decode cX5_unit 146 = .ok (.if_icmp .ne 23, 3) := by decide +kernel
theorem dX5_unit_149 : decode cX5_unit 149 = .ok (.aload_n 0, 1) := by decide +kernel
theorem dX5_unit_150 : decode cX5_unit 150 = .ok (.getfield 32, 3) := by decide +kernel
theorem dX5_unit_153 : decode cX5_unit 153 = .ok (.getfield 118, 3) := by decide +kernel
theorem dX5_unit_156 : decode cX5_unit 156 = .ok (.aload_n 0, 1) := by decide +kernel
theorem dX5_unit_157 : decode cX5_unit 157 = .ok (.getfield 12, 3) := by decide +kernel
theorem dX5_unit_160 : decode cX5_unit 160 = .ok (.getfield 97, 3) := by decide +kernel
theorem dX5_unit_163 : decode cX5_unit 163 = .ok (.invokevirtual 242, 3) := by decide +kernel
theorem dX5_unit_166 : decode cX5_unit 166 = .ok (.goto 28, 3) := by decide +kernel
theorem dX5_unit_169 : decode cX5_unit 169 = .ok (.iload_n 2, 1) := by decide +kernel
theorem dX5_unit_170 : decode cX5_unit 170 = .ok (.iconst (-1), 1) := by decide +kernel
theorem dX5_unit_171 : decode cX5_unit 171 = .ok (.if_icmp .eq 17, 3) := by decide +kernel
theorem dX5_unit_174 : decode cX5_unit 174 = .ok (.aload_n 0, 1) := by decide +kernel
theorem dX5_unit_175 : decode cX5_unit 175 = .ok (.getfield 32, 3) := by decide +kernel
theorem dX5_unit_178 : decode cX5_unit 178 = .ok (.getfield 118, 3) := by decide +kernel
theorem dX5_unit_181 : decode cX5_unit 181 = .ok (.iload_n 2, 1) := by decide +kernel
theorem dX5_unit_182 : decode cX5_unit 182 = .ok (.invokevirtual 245, 3) := by decide +kernel
theorem dX5_unit_185 : decode cX5_unit 185 = .ok (.goto 9, 3) := by decide +kernel
theorem dX5_unit_188 : decode cX5_unit 188 = .ok (.aload_n 0, 1) := by decide +kernel
theorem dX5_unit_189 : decode cX5_unit 189 = .ok (.iconst 2, 1) := by decide +kernel
theorem dX5_unit_190 : decode cX5_unit 190 = .ok (.invokevirtual 66, 3) := by decide +kernel
theorem dX5_unit_193 : decode cX5_unit 193 = .ok (.ireturn, 1) := by decide +kernel
theorem dX5_unit_194 : decode cX5_unit 194 = .ok (.aload_n 0, 1) := by decide +kernel
theorem dX5_unit_195 : decode cX5_unit 195 = .ok (.getfield 12, 3) := by decide +kernel
theorem dX5_unit_198 : decode cX5_unit 198 = .ok (.invokevirtual 94, 3) := by decide +kernel
theorem dX5_unit_201 : decode cX5_unit 201 = .ok (.iconst 1, 1) := by decide +kernel
theorem dX5_unit_202 : decode cX5_unit 202 = .ok (.ireturn, 1) := by decide +kernel
theorem dX6_init_0 : decode cX6_init 0 = .ok (.aload_n 0, 1) := by decide +kernel
theorem dX6_init_1 : decode cX6_init 1 = .ok (.invokespecial 3, 3) := by decide +kernel
theorem dX6_init_4 : decode cX6_init 4 = .ok (.aload_n 0, 1) := by decide +kernel
theorem dX6_init_5 : decode cX6_init 5 = .ok (.bipush 9, 2) := by decide +kernel
theorem dX6_init_7 : decode cX6_init 7 = .ok (.anewarray 11, 3) := by decide +kernel
theorem dX6_init_10 : decode cX6_init 10 = .ok (.putfield 13, 3) := by decide +kernel
theorem dX6_init_13 : decode cX6_init 13 = .ok (.aload_n 0, 1) := by decide +kernel
theorem dX6_init_14 : decode cX6_init 14 = .ok (.bipush 8, 2) := by decide +kernel
theorem dX6_init_16 : decode cX6_init 16 = .ok (.newarray .int, 2) := by decide +kernel
theorem dX6_init_18 : decode cX6_init 18 = .ok (.putfield 17, 3) := by decide +kernel
theorem dX6_init_21 : decode cX6_init 21 = .ok (.aload_n 0, 1) := by decide +kernel
theorem dX6_init_22 : decode cX6_init 22 = .ok (.aload_n 1, 1) := by decide +kernel
theorem dX6_init_23 : decode cX6_init 23 = .ok (.putfield 21, 3) := by decide +kernel
theorem dX6_init_26 : decode cX6_init 26 = .ok (.return_, 1) := by decide +kernel
theorem dX6_level_0 : decode cX6_level 0 = .ok (.iconst 0, 1) := by decide +kernel
theorem dX6_level_1 : decode cX6_level 1 = .ok (.bipush 8, 2) := by decide +kernel
theorem dX6_level_3 : decode cX6_level 3 = .ok (.iload_n 1, 1) := by decide +kernel
theorem dX6_level_4 : decode cX6_level 4 = .ok (.invokestatic 25, 3) := by decide +kernel
theorem dX6_level_7 : decode cX6_level 7 = .ok (.invokestatic 31, 3) := by decide +kernel
theorem dX6_level_10 : decode cX6_level 10 = .ok (.istore_n 2, 1) := by decide +kernel
theorem dX6_level_11 : decode cX6_level 11 = .ok (.aload_n 0, 1) := by decide +kernel
theorem dX6_level_12 : decode cX6_level 12 = .ok (.getfield 13, 3) := by decide +kernel
theorem dX6_level_15 : decode cX6_level 15 = .ok (.iload_n 2, 1) := by decide +kernel
theorem dX6_level_16 : decode cX6_level 16 = .ok (.aaload, 1) := by decide +kernel
theorem dX6_level_17 : decode cX6_level 17 = .ok (.ifnonnull 16, 3) := by decide +kernel
theorem dX6_level_20 : decode cX6_level 20 = .ok (.aload_n 0, 1) := by decide +kernel
theorem dX6_level_21 : decode cX6_level 21 = .ok (.getfield 13, 3) := by decide +kernel
theorem dX6_level_24 : decode cX6_level 24 = .ok (.iload_n 2, 1) := by decide +kernel
theorem dX6_level_25 : decode cX6_level 25 = .ok (.new 11, 3) := by decide +kernel
theorem dX6_level_28 : decode cX6_level 28 = .ok (.dup, 1) := by decide +kernel
theorem dX6_level_29 : decode cX6_level 29 = .ok (.invokespecial 34, 3) := by decide +kernel
theorem dX6_level_32 : decode cX6_level 32 = .ok (.aastore, 1) := by decide +kernel
theorem dX6_level_33 : decode cX6_level 33 = .ok (.aload_n 0, 1) := by decide +kernel
theorem dX6_level_34 : decode cX6_level 34 = .ok (.getfield 13, 3) := by decide +kernel
theorem dX6_level_37 : decode cX6_level 37 = .ok (.iload_n 2, 1) := by decide +kernel
theorem dX6_level_38 : decode cX6_level 38 = .ok (.aaload, 1) := by decide +kernel
theorem dX6_level_39 : decode cX6_level 39 = .ok (.areturn, 1) := by decide +kernel
theorem dX6_nextLevel_0 : decode cX6_nextLevel 0 = .ok (.aload_n 0, 1) := by decide +kernel
theorem dX6_nextLevel_1 : decode cX6_nextLevel 1 = .ok (.iload_n 1, 1) := by decide +kernel
theorem dX6_nextLevel_2 : decode cX6_nextLevel 2 = .ok (.iconst 1, 1) := by decide +kernel
theorem dX6_nextLevel_3 : decode cX6_nextLevel 3 = .ok (.iadd, 1) := by decide +kernel
theorem dX6_nextLevel_4 : decode cX6_nextLevel 4 = .ok (.invokevirtual 35, 3) := by decide +kernel
theorem dX6_nextLevel_7 : decode cX6_nextLevel 7 = .ok (.astore_n 2, 1) := by decide +kernel
theorem dX6_nextLevel_8 : decode cX6_nextLevel 8 = .ok (.aload_n 2, 1) := by decide +kernel
theorem dX6_nextLevel_9 : decode cX6_nextLevel 9 = .ok (.aload_n 0, 1) := by decide +kernel
theorem dX6_nextLevel_10 : decode cX6_nextLevel 10 = .ok (.iload_n 1, 1) := by decide +kernel
theorem dX6_nextLevel_11 : decode cX6_nextLevel 11 = .ok (.invokevirtual 35, 3) := by decide +kernel
theorem dX6_nextLevel_14 : decode cX6_nextLevel 14 = .ok (.invokevirtual 39, 3) := by decide +kernel
theorem dX6_nextLevel_17 : decode cX6_nextLevel 17 = .ok (.aload_n 2, 1) := by decide +kernel
theorem dX6_nextLevel_18 : decode cX6_nextLevel 18 = .ok (.areturn, 1) := by decide +kernel
theorem dX6_bestAlone_0 : decode cX6_bestAlone 0 = .ok (.aload_n 0, 1) := by decide +kernel
theorem dX6_bestAlone_1 : decode cX6_bestAlone 1 = .ok (.iconst 0, 1) := by decide +kernel
theorem dX6_bestAlone_2 : decode cX6_bestAlone 2 = .ok (.invokevirtual 35, 3) := by decide +kernel
theorem dX6_bestAlone_5 : decode cX6_bestAlone 5 = .ok (.aload_n 1, 1) := by decide +kernel
theorem dX6_bestAlone_6 : decode cX6_bestAlone 6 = .ok (.invokevirtual 39, 3) := by decide +kernel
theorem dX6_bestAlone_9 : decode cX6_bestAlone 9 = .ok (.aload_n 0, 1) := by decide +kernel
theorem dX6_bestAlone_10 : decode cX6_bestAlone 10 = .ok (.iload_n 2, 1) := by decide +kernel
theorem dX6_bestAlone_11 : decode cX6_bestAlone 11 = .ok (.putfield 43, 3) := by decide +kernel
theorem dX6_bestAlone_14 : decode cX6_bestAlone 14 = .ok (.aload_n 0, 1) := by decide +kernel
theorem dX6_bestAlone_15 : decode cX6_bestAlone 15 = .ok (.iconst 0, 1) := by decide +kernel
theorem dX6_bestAlone_16 : decode cX6_bestAlone 16 = .ok (.putfield 47, 3) := by decide +kernel
theorem dX6_bestAlone_19 : decode cX6_bestAlone 19 = .ok (.aload_n 0, 1) := by decide +kernel
theorem dX6_bestAlone_20 : decode cX6_bestAlone 20 = .ok (.iconst 0, 1) := by decide +kernel
theorem dX6_bestAlone_21 : decode cX6_bestAlone 21 = .ok (.putfield 50, 3) := by decide +kernel
theorem dX6_bestAlone_24 : decode cX6_bestAlone 24 = .ok (.aload_n 0, 1) := by decide +kernel
theorem dX6_bestAlone_25 : decode cX6_bestAlone 25 = .ok (.iconst (-1), 1) := by decide +kernel
theorem dX6_bestAlone_26 : decode cX6_bestAlone 26 = .ok (.putfield 54, 3) := by decide +kernel
theorem dX6_bestAlone_29 : decode cX6_bestAlone 29 = .ok (.aload_n 0, 1) := by decide +kernel
theorem dX6_bestAlone_30 : decode cX6_bestAlone 30 = .ok (.iconst 0, 1) := by decide +kernel
theorem dX6_bestAlone_31 : decode cX6_bestAlone 31 = .ok (.iload_n 3, 1) := by decide +kernel
theorem dX6_bestAlone_32 : decode cX6_bestAlone 32 = .ok (.invokevirtual 57, 3) := by decide +kernel
theorem dX6_bestAlone_35 : decode cX6_bestAlone 35 = .ok (.ireturn, 1) := by decide +kernel
theorem dX6_bestFrom_0 : decode cX6_bestFrom 0 = .ok (.aload_n 0, 1) := by decide +kernel
theorem dX6_bestFrom_1 : decode cX6_bestFrom 1 = .ok (.dup, 1) := by decide +kernel
theorem dX6_bestFrom_2 : decode cX6_bestFrom 2 = .ok (.getfield 47, 3) := by decide +kernel
theorem dX6_bestFrom_5 : decode cX6_bestFrom 5 = .ok (.iconst 1, 1) := by decide +kernel
theorem dX6_bestFrom_6 : decode cX6_bestFrom 6 = .ok (.iadd, 1) := by decide +kernel
theorem dX6_bestFrom_7 : decode cX6_bestFrom 7 = .ok (.putfield 47, 3) := by decide +kernel
theorem dX6_bestFrom_10 : decode cX6_bestFrom 10 = .ok (.aload_n 0, 1) := by decide +kernel
theorem dX6_bestFrom_11 : decode cX6_bestFrom 11 = .ok (.aload_n 0, 1) := by decide +kernel
theorem dX6_bestFrom_12 : decode cX6_bestFrom 12 = .ok (.getfield 50, 3) := by decide +kernel
theorem dX6_bestFrom_15 : decode cX6_bestFrom 15 = .ok (.ifCond .ne 13, 3) := by decide +kernel
theorem dX6_bestFrom_18 : decode cX6_bestFrom 18 = .ok (.aload_n 0, 1) := by decide +kernel
theorem dX6_bestFrom_19 : decode cX6_bestFrom 19 = .ok (.getfield 47, 3) := by decide +kernel
theorem dX6_bestFrom_22 : decode cX6_bestFrom 22 = .ok (.sipush 20000, 3) := by decide +kernel
theorem dX6_bestFrom_25 : decode cX6_bestFrom 25 = .ok (.if_icmp .le 7, 3) := by decide +kernel
theorem dX6_bestFrom_28 : decode cX6_bestFrom 28 = .ok (.iconst 1, 1) := by decide +kernel
theorem dX6_bestFrom_29 : decode cX6_bestFrom 29 = .ok (.goto 4, 3) := by decide +kernel
theorem dX6_bestFrom_32 : decode cX6_bestFrom 32 = .ok (.iconst 0, 1) := by decide +kernel
theorem dX6_bestFrom_33 : decode cX6_bestFrom 33 = .ok (.putfield 50, 3) := by decide +kernel
theorem dX6_bestFrom_36 : decode cX6_bestFrom 36 = .ok (.aload_n 0, 1) := by decide +kernel
theorem dX6_bestFrom_37 : decode cX6_bestFrom 37 = .ok (.getfield 50, 3) := by decide +kernel
theorem dX6_bestFrom_40 : decode cX6_bestFrom 40 = .ok (.ifCond .ne 13, 3) := by decide +kernel
theorem dX6_bestFrom_43 : decode cX6_bestFrom 43 = .ok (.iload_n 2, 1) := by decide +kernel
theorem dX6_bestFrom_44 : decode cX6_bestFrom 44 = .ok (.ifCond .le 9, 3) := by decide +kernel
theorem dX6_bestFrom_47 : decode cX6_bestFrom 47 = .ok (.iload_n 1, 1) := by decide +kernel
theorem dX6_bestFrom_48 : decode cX6_bestFrom 48 = .ok (.bipush 8, 2) := by decide +kernel
theorem dX6_bestFrom_50 : decode cX6_bestFrom 50 = .ok (.if_icmp .lt 5, 3) := by decide +kernel
theorem dX6_bestFrom_53 : decode cX6_bestFrom 53 = .ok (.iconst 0, 1) := by decide +kernel
theorem dX6_bestFrom_54 : decode cX6_bestFrom 54 = .ok (.ireturn, 1) := by decide +kernel
theorem dX6_bestFrom_55 : decode cX6_bestFrom 55 = .ok (.aload_n 0, 1) := by decide +kernel
theorem dX6_bestFrom_56 : decode cX6_bestFrom 56 = .ok (.iload_n 1, 1) := by decide +kernel
theorem dX6_bestFrom_57 : decode cX6_bestFrom 57 = .ok (.invokevirtual 35, 3) := by decide +kernel
theorem dX6_bestFrom_60 : decode cX6_bestFrom 60 = .ok (.astore_n 3, 1) := by decide +kernel
theorem dX6_bestFrom_61 : decode cX6_bestFrom 61 = .ok (.iconst 0, 1) := by decide +kernel
theorem dX6_bestFrom_62 : decode cX6_bestFrom 62 = .ok (.istore 4, 2) := by decide +kernel
theorem dX6_bestFrom_64 : decode cX6_bestFrom 64 = .ok (.iconst (-1), 1) := by decide +kernel
theorem dX6_bestFrom_65 : decode cX6_bestFrom 65 = .ok (.istore 5, 2) := by decide +kernel
theorem dX6_bestFrom_67 : decode cX6_bestFrom 67 = .ok (.iconst 0, 1) := by decide +kernel
theorem dX6_bestFrom_68 : decode cX6_bestFrom 68 = .ok (.istore 6, 2) := by decide +kernel
theorem dX6_bestFrom_70 : decode cX6_bestFrom 70 = .ok (.iload 6, 2) := by decide +kernel
theorem dX6_bestFrom_72 : decode cX6_bestFrom 72 = .ok (.aload_n 0, 1) := by decide +kernel
theorem dX6_bestFrom_73 : decode cX6_bestFrom 73 = .ok (.getfield 21, 3) := by decide +kernel
theorem dX6_bestFrom_76 : decode cX6_bestFrom 76 = .ok (.getfield 60, 3) := by decide +kernel
theorem dX6_bestFrom_79 : decode cX6_bestFrom 79 = .ok (.getfield 66, 3) := by decide +kernel
theorem dX6_bestFrom_82 : decode cX6_bestFrom 82 = .ok (.if_icmp .ge 93, 3) := by decide +kernel
theorem dX6_bestFrom_85 : decode cX6_bestFrom 85 = .ok (.aload_n 0, 1) := by decide +kernel
theorem dX6_bestFrom_86 : decode cX6_bestFrom 86 = .ok (.getfield 50, 3) := by decide +kernel
theorem dX6_bestFrom_89 : decode cX6_bestFrom 89 = .ok (.ifCond .ne 86, 3) := by decide +kernel
theorem dX6_bestFrom_92 : decode cX6_bestFrom 92 = .ok (.iconst 0, 1) := by decide +kernel
theorem dX6_bestFrom_93 : decode cX6_bestFrom 93 = .ok (.istore 7, 2) := by decide +kernel
theorem dX6_bestFrom_95 : decode cX6_bestFrom 95 = .ok (.iload 7, 2) := by decide +kernel
theorem dX6_bestFrom_97 : decode cX6_bestFrom 97 = .ok (.iconst 5, 1) := by decide +kernel
theorem dX6_bestFrom_98 : decode cX6_bestFrom 98 = .ok (.if_icmp .ge 71, 3) := by decide +kernel
theorem dX6_bestFrom_101 : decode cX6_bestFrom 101 = .ok (.getstatic 71, 3) := by decide +kernel
theorem dX6_bestFrom_104 : decode cX6_bestFrom 104 = .ok (.iload 7, 2) := by decide +kernel
theorem dX6_bestFrom_106 : decode cX6_bestFrom 106 = .ok (.iaload, 1) := by decide +kernel
theorem dX6_bestFrom_107 : decode cX6_bestFrom 107 = .ok (.iload_n 2, 1) := by decide +kernel
theorem dX6_bestFrom_108 : decode cX6_bestFrom 108 = .ok (.if_icmp .gt 55, 3) := by decide +kernel
theorem dX6_bestFrom_111 : decode cX6_bestFrom 111 = .ok (.aload_n 0, 1) := by decide +kernel
theorem dX6_bestFrom_112 : decode cX6_bestFrom 112 = .ok (.getfield 21, 3) := by decide +kernel
theorem dX6_bestFrom_115 : decode cX6_bestFrom 115 = .ok (.aload_n 3, 1) := by decide +kernel
theorem dX6_bestFrom_116 : decode cX6_bestFrom 116 = .ok (.aload_n 0, 1) := by decide +kernel
theorem dX6_bestFrom_117 : decode cX6_bestFrom 117 = .ok (.getfield 43, 3) := by decide +kernel
theorem dX6_bestFrom_120 : decode cX6_bestFrom 120 = .ok (.iload 6, 2) := by decide +kernel
theorem dX6_bestFrom_122 : decode cX6_bestFrom 122 = .ok (.iload 7, 2) := by decide +kernel
theorem dX6_bestFrom_124 : decode cX6_bestFrom 124 = .ok (.invokevirtual 74, 3) := by decide +kernel
theorem dX6_bestFrom_127 : decode cX6_bestFrom 127 = .ok (.ifCond .eq 36, 3) := by decide +kernel
theorem dX6_bestFrom_130 : decode cX6_bestFrom 130 = .ok (.aload_n 0, 1) := by decide +kernel
theorem dX6_bestFrom_131 : decode cX6_bestFrom 131 = .ok (.iload_n 1, 1) := by decide +kernel
theorem dX6_bestFrom_132 : decode cX6_bestFrom 132 = .ok (.iload_n 2, 1) := by decide +kernel
theorem dX6_bestFrom_133 : decode cX6_bestFrom 133 = .ok (.iload 6, 2) := by decide +kernel
theorem dX6_bestFrom_135 : decode cX6_bestFrom 135 = .ok (.iload 7, 2) := by decide +kernel
theorem dX6_bestFrom_137 : decode cX6_bestFrom 137 = .ok (.invokevirtual 78, 3) := by decide +kernel
theorem dX6_bestFrom_140 : decode cX6_bestFrom 140 = .ok (.istore 8, 2) := by decide +kernel
theorem dX6_bestFrom_142 : decode cX6_bestFrom 142 = .ok (.iload 8, 2) := by decide +kernel
theorem dX6_bestFrom_144 : decode cX6_bestFrom 144 = .ok (.iload 4, 2) := by decide +kernel
theorem dX6_bestFrom_146 : decode cX6_bestFrom 146 = .ok (.if_icmp .le 17, 3) := by decide +kernel
theorem dX6_bestFrom_149 : decode cX6_bestFrom 149 = .ok (.iload 8, 2) := by decide +kernel
theorem dX6_bestFrom_151 : decode cX6_bestFrom 151 = .ok (.istore 4, 2) := by decide +kernel
theorem dX6_bestFrom_153 : decode cX6_bestFrom 153 = .ok (.bipush 10, 2) := by decide +kernel
theorem dX6_bestFrom_155 : decode cX6_bestFrom 155 = .ok (.iload 6, 2) := by decide +kernel
theorem dX6_bestFrom_157 : decode cX6_bestFrom 157 = .ok (.imul, 1) := by decide +kernel
theorem dX6_bestFrom_158 : decode cX6_bestFrom 158 = .ok (.iload 7, 2) := by decide +kernel
theorem dX6_bestFrom_160 : decode cX6_bestFrom 160 = .ok (.iadd, 1) := by decide +kernel
theorem dX6_bestFrom_161 : decode cX6_bestFrom 161 = .ok (.istore 5, 2) := by decide +kernel
theorem dX6_bestFrom_163 : decode cX6_bestFrom 163 = .ok (.iinc 7 1, 3) := by decide +kernel
theorem dX6_bestFrom_166 : decode cX6_bestFrom 166 = .ok (.goto (-71), 3) := by decide +kernel
theorem dX6_bestFrom_169 : decode cX6_bestFrom 169 = .ok (.iinc 6 1, 3) := by decide +kernel
theorem dX6_bestFrom_172 : decode cX6_bestFrom 172 = .ok (.goto (-102), 3) := by decide +kernel
theorem dX6_bestFrom_175 : decode cX6_bestFrom 175 = .ok (.iload_n 2, 1) := by decide +kernel
theorem dX6_bestFrom_176 : decode cX6_bestFrom 176 = .ok (.iconst 2, 1) := by decide +kernel
theorem dX6_bestFrom_177 : decode cX6_bestFrom 177 = .ok (.if_icmp .lt 53, 3) := by decide +kernel
theorem dX6_bestFrom_180 : decode cX6_bestFrom 180 = .ok (.aload_n 3, 1) := by decide +kernel
theorem dX6_bestFrom_181 : decode cX6_bestFrom 181 = .ok (.getfield 82, 3) := by decide +kernel
theorem dX6_bestFrom_184 : decode cX6_bestFrom 184 = .ok (.aload_n 0, 1) := by decide +kernel
theorem dX6_bestFrom_185 : decode cX6_bestFrom 185 = .ok (.getfield 43, 3) := by decide +kernel
theorem dX6_bestFrom_188 : decode cX6_bestFrom 188 = .ok (.iaload, 1) := by decide +kernel
theorem dX6_bestFrom_189 : decode cX6_bestFrom 189 = .ok (.aload_n 0, 1) := by decide +kernel
theorem dX6_bestFrom_190 : decode cX6_bestFrom 190 = .ok (.getfield 21, 3) := by decide +kernel
theorem dX6_bestFrom_193 : decode cX6_bestFrom 193 = .ok (.getfield 60, 3) := by decide +kernel
theorem dX6_bestFrom_196 : decode cX6_bestFrom 196 = .ok (.getfield 85, 3) := by decide +kernel
theorem dX6_bestFrom_199 : decode cX6_bestFrom 199 = .ok (.aload_n 0, 1) := by decide +kernel
theorem dX6_bestFrom_200 : decode cX6_bestFrom 200 = .ok (.getfield 43, 3) := by decide +kernel
theorem dX6_bestFrom_203 : decode cX6_bestFrom 203 = .ok (.iaload, 1) := by decide +kernel
theorem dX6_bestFrom_204 : decode cX6_bestFrom 204 = .ok (.if_icmp .ge 26, 3) := by decide +kernel
theorem dX6_bestFrom_207 : decode cX6_bestFrom 207 = .ok (.aload_n 0, 1) := by decide +kernel
theorem dX6_bestFrom_208 : decode cX6_bestFrom 208 = .ok (.iload_n 1, 1) := by decide +kernel
theorem dX6_bestFrom_209 : decode cX6_bestFrom 209 = .ok (.iload_n 2, 1) := by decide +kernel
theorem dX6_bestFrom_210 : decode cX6_bestFrom 210 = .ok (.invokevirtual 86, 3) := by decide +kernel
theorem dX6_bestFrom_213 : decode cX6_bestFrom 213 = .ok (.istore 6, 2) := by decide +kernel
theorem dX6_bestFrom_215 : decode cX6_bestFrom 215 = .ok (.iload 6, 2) := by decide +kernel
theorem dX6_bestFrom_217 : decode cX6_bestFrom 217 = .ok (.iload 4, 2) := by decide +kernel
theorem dX6_bestFrom_219 : decode cX6_bestFrom 219 = .ok (.if_icmp .le 11, 3) := by decide +kernel
theorem dX6_bestFrom_222 : decode cX6_bestFrom 222 = .ok (.iload 6, 2) := by decide +kernel
theorem dX6_bestFrom_224 : decode cX6_bestFrom 224 = .ok (.istore 4, 2) := by decide +kernel
theorem dX6_bestFrom_226 : decode cX6_bestFrom 226 = .ok (.bipush (-2), 2) := by decide +kernel
theorem dX6_bestFrom_228 : decode cX6_bestFrom 228 = .ok (.istore 5, 2) := by decide +kernel
theorem dX6_bestFrom_230 : decode cX6_bestFrom 230 = .ok (.aload_n 0, 1) := by decide +kernel
theorem dX6_bestFrom_231 : decode cX6_bestFrom 231 = .ok (.iload_n 1, 1) := by decide +kernel
theorem dX6_bestFrom_232 : decode cX6_bestFrom 232 = .ok (.ifCond .ne 8, 3) := by decide +kernel
theorem dX6_bestFrom_235 : decode cX6_bestFrom 235 = .ok (.iload 5, 2) := by decide +kernel
theorem dX6_bestFrom_237 : decode cX6_bestFrom 237 = .ok (.goto 7, 3) := by decide +kernel
theorem dX6_bestFrom_240 : decode cX6_bestFrom 240 = .ok (.aload_n 0, 1) := by decide +kernel
theorem dX6_bestFrom_241 : decode cX6_bestFrom 241 = .ok (.getfield 54, 3) := by decide +kernel
theorem dX6_bestFrom_244 : decode cX6_bestFrom 244 = .ok (.putfield 54, 3) := by decide +kernel
theorem dX6_bestFrom_247 : decode cX6_bestFrom 247 = .ok (.iload 4, 2) := by decide +kernel
theorem dX6_bestFrom_249 : decode cX6_bestFrom 249 = .ok (.ireturn, 1) := by decide +kernel
theorem dX6_bestByTry_0 : decode cX6_bestByTry 0 = .ok (.aload_n 0, 1) := by decide +kernel
theorem dX6_bestByTry_1 : decode cX6_bestByTry 1 = .ok (.getfield 50, 3) := by decide +kernel
theorem dX6_bestByTry_4 : decode cX6_bestByTry 4 = .ok (.ifCond .eq 5, 3) := by decide +kernel
theorem dX6_bestByTry_7 : decode cX6_bestByTry 7 = .ok (.iconst 0, 1) := by decide +kernel
theorem dX6_bestByTry_8 : decode cX6_bestByTry 8 = .ok (.ireturn, 1) := by decide +kernel
theorem dX6_bestByTry_9 : decode cX6_bestByTry 9 = .ok (.aload_n 0, 1) := by decide +kernel
theorem dX6_bestByTry_10 : decode cX6_bestByTry 10 = .ok (.getfield 21, 3) := by decide +kernel
theorem dX6_bestByTry_13 : decode cX6_bestByTry 13 = .ok (.aload_n 0, 1) := by decide +kernel
theorem dX6_bestByTry_14 : decode cX6_bestByTry 14 = .ok (.iload_n 1, 1) := by decide +kernel
theorem dX6_bestByTry_15 : decode cX6_bestByTry 15 = .ok (.invokevirtual 35, 3) := by decide +kernel
theorem dX6_bestByTry_18 : decode cX6_bestByTry 18 = .ok (.aload_n 0, 1) := by decide +kernel
theorem dX6_bestByTry_19 : decode cX6_bestByTry 19 = .ok (.getfield 43, 3) := by decide +kernel
theorem dX6_bestByTry_22 : decode cX6_bestByTry 22 = .ok (.iload_n 3, 1) := by decide +kernel
theorem dX6_bestByTry_23 : decode cX6_bestByTry 23 = .ok (.iload 4, 2) := by decide +kernel
theorem dX6_bestByTry_25 : decode cX6_bestByTry 25 = .ok (.invokevirtual 89, 3) := by decide +kernel
theorem dX6_bestByTry_28 : decode cX6_bestByTry 28 = .ok (.istore 5, 2) := by decide +kernel
theorem dX6_bestByTry_30 : decode cX6_bestByTry 30 = .ok (.iload_n 2, 1) := by decide +kernel
theorem dX6_bestByTry_31 : decode cX6_bestByTry 31 = .ok (.getstatic 71, 3) := by decide +kernel
theorem dX6_bestByTry_34 : decode cX6_bestByTry 34 = .ok (.iload 4, 2) := by decide +kernel
theorem dX6_bestByTry_36 : decode cX6_bestByTry 36 = .ok (.iaload, 1) := by decide +kernel
theorem dX6_bestByTry_37 : decode cX6_bestByTry 37 = .ok (.isub, 1) := by decide +kernel
theorem dX6_bestByTry_38 : decode cX6_bestByTry 38 = .ok (.istore 6, 2) := by decide +kernel
theorem dX6_bestByTry_40 : decode cX6_bestByTry 40 = .ok (.aload_n 0, 1) := by decide +kernel
theorem dX6_bestByTry_41 : decode cX6_bestByTry 41 = .ok (.getfield 21, 3) := by decide +kernel
theorem dX6_bestByTry_44 : decode cX6_bestByTry 44 = .ok (.aload_n 0, 1) := by decide +kernel
theorem dX6_bestByTry_45 : decode cX6_bestByTry 45 = .ok (.iload_n 1, 1) := by decide +kernel
theorem dX6_bestByTry_46 : decode cX6_bestByTry 46 = .ok (.invokevirtual 93, 3) := by decide +kernel
theorem dX6_bestByTry_49 : decode cX6_bestByTry 49 = .ok (.aload_n 0, 1) := by decide +kernel
theorem dX6_bestByTry_50 : decode cX6_bestByTry 50 = .ok (.getfield 43, 3) := by decide +kernel
theorem dX6_bestByTry_53 : decode cX6_bestByTry 53 = .ok (.iload_n 3, 1) := by decide +kernel
theorem dX6_bestByTry_54 : decode cX6_bestByTry 54 = .ok (.iload 4, 2) := by decide +kernel
theorem dX6_bestByTry_56 : decode cX6_bestByTry 56 = .ok (.invokevirtual 96, 3) := by decide +kernel
theorem dX6_bestByTry_59 : decode cX6_bestByTry 59 = .ok (.aload_n 0, 1) := by decide +kernel
theorem dX6_bestByTry_60 : decode cX6_bestByTry 60 = .ok (.iload_n 1, 1) := by decide +kernel
theorem dX6_bestByTry_61 : decode cX6_bestByTry 61 = .ok (.iconst 1, 1) := by decide +kernel
theorem dX6_bestByTry_62 : decode cX6_bestByTry 62 = .ok (.iadd, 1) := by decide +kernel
theorem dX6_bestByTry_63 : decode cX6_bestByTry 63 = .ok (.iload 6, 2) := by decide +kernel
theorem dX6_bestByTry_65 : decode cX6_bestByTry 65 = .ok (.invokevirtual 57, 3) := by decide +kernel
theorem dX6_bestByTry_68 : decode cX6_bestByTry 68 = .ok (.i2l, 1) := by decide +kernel
theorem dX6_bestByTry_69 : decode cX6_bestByTry 69 = .ok (.lstore 7, 2) := by decide +kernel
theorem dX6_bestByTry_71 : decode cX6_bestByTry 71 = .ok (.aload_n 0, 1) := by decide +kernel
theorem dX6_bestByTry_72 : decode cX6_bestByTry 72 = .ok (.getfield 21, 3) := by decide +kernel
theorem dX6_bestByTry_75 : decode cX6_bestByTry 75 = .ok (.aload_n 0, 1) := by decide +kernel
theorem dX6_bestByTry_76 : decode cX6_bestByTry 76 = .ok (.iload_n 1, 1) := by decide +kernel
theorem dX6_bestByTry_77 : decode cX6_bestByTry 77 = .ok (.invokevirtual 93, 3) := by decide +kernel
theorem dX6_bestByTry_80 : decode cX6_bestByTry 80 = .ok (.aload_n 0, 1) := by decide +kernel
theorem dX6_bestByTry_81 : decode cX6_bestByTry 81 = .ok (.getfield 43, 3) := by decide +kernel
theorem dX6_bestByTry_84 : decode cX6_bestByTry 84 = .ok (.iload_n 3, 1) := by decide +kernel
theorem dX6_bestByTry_85 : decode cX6_bestByTry 85 = .ok (.iload 4, 2) := by decide +kernel
theorem dX6_bestByTry_87 : decode cX6_bestByTry 87 = .ok (.invokevirtual 100, 3) := by decide +kernel
theorem dX6_bestByTry_90 : decode cX6_bestByTry 90 = .ok (.aload_n 0, 1) := by decide +kernel
theorem dX6_bestByTry_91 : decode cX6_bestByTry 91 = .ok (.iload_n 1, 1) := by decide +kernel
theorem dX6_bestByTry_92 : decode cX6_bestByTry 92 = .ok (.iconst 1, 1) := by decide +kernel
theorem dX6_bestByTry_93 : decode cX6_bestByTry 93 = .ok (.iadd, 1) := by decide +kernel
theorem dX6_bestByTry_94 : decode cX6_bestByTry 94 = .ok (.iload 6, 2) := by decide +kernel
theorem dX6_bestByTry_96 : decode cX6_bestByTry 96 = .ok (.invokevirtual 57, 3) := by decide +kernel
theorem dX6_bestByTry_99 : decode cX6_bestByTry 99 = .ok (.i2l, 1) := by decide +kernel
theorem dX6_bestByTry_100 : decode cX6_bestByTry 100 = .ok (.lstore 9, 2) := by decide +kernel
theorem dX6_bestByTry_102 : decode cX6_bestByTry 102 = .ok (.iload 5, 2) := by decide +kernel
theorem dX6_bestByTry_104 : decode cX6_bestByTry 104 = .ok (.i2l, 1) := by decide +kernel
theorem dX6_bestByTry_105 : decode cX6_bestByTry 105 = .ok (.ldc2_w 103, 3) := by decide +kernel
theorem dX6_bestByTry_108 : decode cX6_bestByTry 108 = .ok (.lload 7, 2) := by decide +kernel
theorem dX6_bestByTry_110 : decode cX6_bestByTry 110 = .ok (.ladd, 1) := by decide +kernel
theorem dX6_bestByTry_111 : decode cX6_bestByTry 111 = .ok (.lmul, 1) := by decide +kernel
theorem dX6_bestByTry_112 : decode cX6_bestByTry 112 = .ok (.bipush 100, 2) := by decide +kernel
theorem dX6_bestByTry_114 : decode cX6_bestByTry 114 = .ok (.iload 5, 2) := by decide +kernel
theorem dX6_bestByTry_116 : decode cX6_bestByTry 116 = .ok (.isub, 1) := by decide +kernel
theorem dX6_bestByTry_117 : decode cX6_bestByTry 117 = .ok (.i2l, 1) := by decide +kernel
theorem dX6_bestByTry_118 : decode cX6_bestByTry 118 = .ok (.lload 9, 2) := by decide +kernel
theorem dX6_bestByTry_120 : decode cX6_bestByTry 120 = .ok (.lmul, 1) := by decide +kernel
theorem dX6_bestByTry_121 : decode cX6_bestByTry 121 = .ok (.ladd, 1) := by decide +kernel
theorem dX6_bestByTry_122 : decode cX6_bestByTry 122 = .ok (.ldc2_w 105, 3) := by decide +kernel
theorem dX6_bestByTry_125 : decode cX6_bestByTry 125 = .ok (.ldiv, 1) := by decide +kernel
theorem dX6_bestByTry_126 : decode cX6_bestByTry 126 = .ok (.l2i, 1) := by decide +kernel
theorem dX6_bestByTry_127 : decode cX6_bestByTry 127 = .ok (.ireturn, 1) := by decide +kernel
theorem dX6_bestByBreathing_0 : decode cX6_bestByBreathing 0 = .ok (.aload_n 0, 1) := by decide +kernel
theorem dX6_bestByBreathing_1 : decode cX6_bestByBreathing 1 = .ok (.getfield 21, 3) := by decide +kernel
theorem dX6_bestByBreathing_4 : decode cX6_bestByBreathing 4 = .ok (.aload_n 0, 1) := by decide +kernel
theorem dX6_bestByBreathing_5 : decode cX6_bestByBreathing 5 = .ok (.iload_n 1, 1) := by decide +kernel
theorem dX6_bestByBreathing_6 : decode cX6_bestByBreathing 6 = .ok (.invokevirtual 93, 3) := by decide +kernel
theorem dX6_bestByBreathing_9 : decode cX6_bestByBreathing 9 = .ok (.aload_n 0, 1) := by decide +kernel
theorem dX6_bestByBreathing_10 : decode cX6_bestByBreathing 10 = .ok (.getfield 43, 3) := by decide +kernel
theorem dX6_bestByBreathing_13 : decode cX6_bestByBreathing 13 = .ok (.invokevirtual 107, 3) := by decide +kernel
theorem dX6_bestByBreathing_16 : decode cX6_bestByBreathing 16 = .ok (.aload_n 0, 1) := by decide +kernel
theorem dX6_bestByBreathing_17 : decode cX6_bestByBreathing 17 = .ok (.iload_n 1, 1) := by decide +kernel
theorem dX6_bestByBreathing_18 : decode cX6_bestByBreathing 18 = .ok (.iconst 1, 1) := by decide +kernel
theorem dX6_bestByBreathing_19 : decode cX6_bestByBreathing 19 = .ok (.iadd, 1) := by decide +kernel
theorem dX6_bestByBreathing_20 : decode cX6_bestByBreathing 20 = .ok (.iload_n 2, 1) := by decide +kernel
theorem dX6_bestByBreathing_21 : decode cX6_bestByBreathing 21 = .ok (.iconst 2, 1) := by decide +kernel
theorem dX6_bestByBreathing_22 : decode cX6_bestByBreathing 22 = .ok (.isub, 1) := by decide +kernel
theorem dX6_bestByBreathing_23 : decode cX6_bestByBreathing 23 = .ok (.invokevirtual 57, 3) := by decide +kernel
theorem dX6_bestByBreathing_26 : decode cX6_bestByBreathing 26 = .ok (.ireturn, 1) := by decide +kernel
theorem dX6_fewestDrives_0 : decode cX6_fewestDrives 0 = .ok (.aload_n 0, 1) := by decide +kernel
theorem dX6_fewestDrives_1 : decode cX6_fewestDrives 1 = .ok (.iconst 0, 1) := by decide +kernel
theorem dX6_fewestDrives_2 : decode cX6_fewestDrives 2 = .ok (.invokevirtual 35, 3) := by decide +kernel
theorem dX6_fewestDrives_5 : decode cX6_fewestDrives 5 = .ok (.aload_n 1, 1) := by decide +kernel
theorem dX6_fewestDrives_6 : decode cX6_fewestDrives 6 = .ok (.invokevirtual 39, 3) := by decide +kernel
theorem dX6_fewestDrives_9 : decode cX6_fewestDrives 9 = .ok (.aload_n 0, 1) := by decide +kernel
theorem dX6_fewestDrives_10 : decode cX6_fewestDrives 10 = .ok (.iload_n 2, 1) := by decide +kernel
theorem dX6_fewestDrives_11 : decode cX6_fewestDrives 11 = .ok (.putfield 43, 3) := by decide +kernel
theorem dX6_fewestDrives_14 : decode cX6_fewestDrives 14 = .ok (.aload_n 0, 1) := by decide +kernel
theorem dX6_fewestDrives_15 : decode cX6_fewestDrives 15 = .ok (.iload_n 3, 1) := by decide +kernel
theorem dX6_fewestDrives_16 : decode cX6_fewestDrives 16 = .ok (.putfield 111, 3) := by decide +kernel
theorem dX6_fewestDrives_19 : decode cX6_fewestDrives 19 = .ok (.aload_n 0, 1) := by decide +kernel
theorem dX6_fewestDrives_20 : decode cX6_fewestDrives 20 = .ok (.iload 4, 2) := by decide +kernel
theorem dX6_fewestDrives_22 : decode cX6_fewestDrives 22 = .ok (.putfield 114, 3) := by decide +kernel
theorem dX6_fewestDrives_25 : decode cX6_fewestDrives 25 = .ok (.iconst 0, 1) := by decide +kernel
theorem dX6_fewestDrives_26 : decode cX6_fewestDrives 26 = .ok (.istore 5, 2) := by decide +kernel
theorem dX6_fewestDrives_28 : decode cX6_fewestDrives 28 = .ok (.iload 5, 2) := by decide +kernel
theorem dX6_fewestDrives_30 : decode cX6_fewestDrives 30 = .ok (.iconst 4, 1) := by decide +kernel
theorem dX6_fewestDrives_31 : decode cX6_fewestDrives 31 = .ok (.if_icmp .gt 22, 3) := by decide +kernel
theorem dX6_fewestDrives_34 : decode cX6_fewestDrives 34 = .ok (.aload_n 0, 1) := by decide +kernel
theorem dX6_fewestDrives_35 : decode cX6_fewestDrives 35 = .ok (.iconst 0, 1) := by decide +kernel
theorem dX6_fewestDrives_36 : decode cX6_fewestDrives 36 = .ok (.iload 5, 2) := by decide +kernel
theorem dX6_fewestDrives_38 : decode cX6_fewestDrives 38 = .ok (.invokevirtual 117, 3) := by decide +kernel
theorem dX6_fewestDrives_41 : decode cX6_fewestDrives 41 = .ok (.ifCond .eq 6, 3) := by decide +kernel
theorem dX6_fewestDrives_44 : decode cX6_fewestDrives 44 = .ok (.iload 5, 2) := by decide +kernel
theorem dX6_fewestDrives_46 : decode cX6_fewestDrives 46 = .ok (.ireturn, 1) := by decide +kernel
theorem dX6_fewestDrives_47 : decode cX6_fewestDrives 47 = .ok (.iinc 5 1, 3) := by decide +kernel
theorem dX6_fewestDrives_50 : decode cX6_fewestDrives 50 = .ok (.goto (-22), 3) := by decide +kernel
theorem dX6_fewestDrives_53 : decode cX6_fewestDrives 53 = .ok (.iconst (-1), 1) := by decide +kernel
theorem dX6_fewestDrives_54 : decode cX6_fewestDrives 54 = .ok (.ireturn, 1) := by decide +kernel
theorem dX6_drivesWithin_0 : decode cX6_drivesWithin 0 = .ok (.aload_n 0, 1) := by decide +kernel
theorem dX6_drivesWithin_1 : decode cX6_drivesWithin 1 = .ok (.iload_n 1, 1) := by decide +kernel
theorem dX6_drivesWithin_2 : decode cX6_drivesWithin 2 = .ok (.invokevirtual 35, 3) := by decide +kernel
theorem dX6_drivesWithin_5 : decode cX6_drivesWithin 5 = .ok (.astore_n 3, 1) := by decide +kernel
theorem dX6_drivesWithin_6 : decode cX6_drivesWithin 6 = .ok (.iload_n 2, 1) := by decide +kernel
theorem dX6_drivesWithin_7 : decode cX6_drivesWithin 7 = .ok (.ifCond .le 8, 3) := by decide +kernel
theorem dX6_drivesWithin_10 : decode cX6_drivesWithin 10 = .ok (.iload_n 1, 1) := by decide +kernel
theorem dX6_drivesWithin_11 : decode cX6_drivesWithin 11 = .ok (.iconst 4, 1) := by decide +kernel
theorem dX6_drivesWithin_12 : decode cX6_drivesWithin 12 = .ok (.if_icmp .lt 21, 3) := by decide +kernel
theorem dX6_drivesWithin_15 : decode cX6_drivesWithin 15 = .ok (.aload_n 0, 1) := by decide +kernel
theorem dX6_drivesWithin_16 : decode cX6_drivesWithin 16 = .ok (.getfield 21, 3) := by decide +kernel
theorem dX6_drivesWithin_19 : decode cX6_drivesWithin 19 = .ok (.aload_n 3, 1) := by decide +kernel
theorem dX6_drivesWithin_20 : decode cX6_drivesWithin 20 = .ok (.aload_n 0, 1) := by decide +kernel
theorem dX6_drivesWithin_21 : decode cX6_drivesWithin 21 = .ok (.getfield 111, 3) := by decide +kernel
theorem dX6_drivesWithin_24 : decode cX6_drivesWithin 24 = .ok (.aload_n 0, 1) := by decide +kernel
theorem dX6_drivesWithin_25 : decode cX6_drivesWithin 25 = .ok (.getfield 114, 3) := by decide +kernel
theorem dX6_drivesWithin_28 : decode cX6_drivesWithin 28 = .ok (.iconst 0, 1) := by decide +kernel
theorem dX6_drivesWithin_29 : decode cX6_drivesWithin 29 = .ok (.invokevirtual 74, 3) := by decide +kernel
theorem dX6_drivesWithin_32 : decode cX6_drivesWithin 32 = .ok (.ireturn, 1) := by decide +kernel
theorem dX6_drivesWithin_33 : decode cX6_drivesWithin 33 = .ok (.aload_n 3, 1) := by decide +kernel
theorem dX6_drivesWithin_34 : decode cX6_drivesWithin 34 = .ok (.getfield 121, 3) := by decide +kernel
theorem dX6_drivesWithin_37 : decode cX6_drivesWithin 37 = .ok (.aload_n 0, 1) := by decide +kernel
theorem dX6_drivesWithin_38 : decode cX6_drivesWithin 38 = .ok (.getfield 114, 3) := by decide +kernel
theorem dX6_drivesWithin_41 : decode cX6_drivesWithin 41 = .ok (.iaload, 1) := by decide +kernel
theorem dX6_drivesWithin_42 : decode cX6_drivesWithin 42 = .ok (.iconst (-1), 1) := by decide +kernel
theorem dX6_drivesWithin_43 : decode cX6_drivesWithin 43 = .ok (.if_icmp .ne 39, 3) := by decide +kernel
theorem dX6_drivesWithin_46 : decode cX6_drivesWithin 46 = .ok (.aload_n 0, 1) := by decide +kernel
theorem dX6_drivesWithin_47 : decode cX6_drivesWithin 47 = .ok (.getfield 21, 3) := by decide +kernel
theorem dX6_drivesWithin_50 : decode cX6_drivesWithin 50 = .ok (.aload_n 3, 1) := by decide +kernel
theorem dX6_drivesWithin_51 : decode cX6_drivesWithin 51 = .ok (.aload_n 0, 1) := by decide +kernel
theorem dX6_drivesWithin_52 : decode cX6_drivesWithin 52 = .ok (.getfield 111, 3) := by decide +kernel
theorem dX6_drivesWithin_55 : decode cX6_drivesWithin 55 = .ok (.aload_n 0, 1) := by decide +kernel
theorem dX6_drivesWithin_56 : decode cX6_drivesWithin 56 = .ok (.getfield 114, 3) := by decide +kernel
theorem dX6_drivesWithin_59 : decode cX6_drivesWithin 59 = .ok (.invokevirtual 124, 3) := by decide +kernel
theorem dX6_drivesWithin_62 : decode cX6_drivesWithin 62 = .ok (.aload_n 0, 1) := by decide +kernel
theorem dX6_drivesWithin_63 : decode cX6_drivesWithin 63 = .ok (.getfield 21, 3) := by decide +kernel
theorem dX6_drivesWithin_66 : decode cX6_drivesWithin 66 = .ok (.getfield 60, 3) := by decide +kernel
theorem dX6_drivesWithin_69 : decode cX6_drivesWithin 69 = .ok (.getfield 128, 3) := by decide +kernel
theorem dX6_drivesWithin_72 : decode cX6_drivesWithin 72 = .ok (.aload_n 0, 1) := by decide +kernel
theorem dX6_drivesWithin_73 : decode cX6_drivesWithin 73 = .ok (.getfield 111, 3) := by decide +kernel
theorem dX6_drivesWithin_76 : decode cX6_drivesWithin 76 = .ok (.iaload, 1) := by decide +kernel
theorem dX6_drivesWithin_77 : decode cX6_drivesWithin 77 = .ok (.isub, 1) := by decide +kernel
theorem dX6_drivesWithin_78 : decode cX6_drivesWithin 78 = .ok (.iload_n 2, 1) := by decide +kernel
theorem dX6_drivesWithin_79 : decode cX6_drivesWithin 79 = .ok (.if_icmp .le 5, 3) := by decide +kernel
theorem dX6_drivesWithin_82 : decode cX6_drivesWithin 82 = .ok (.iconst 0, 1) := by decide +kernel
theorem dX6_drivesWithin_83 : decode cX6_drivesWithin 83 = .ok (.ireturn, 1) := by decide +kernel
theorem dX6_drivesWithin_84 : decode cX6_drivesWithin 84 = .ok (.iconst 0, 1) := by decide +kernel
theorem dX6_drivesWithin_85 : decode cX6_drivesWithin 85 = .ok (.istore 4, 2) := by decide +kernel
theorem dX6_drivesWithin_87 : decode cX6_drivesWithin 87 = .ok (.iload 4, 2) := by decide +kernel
theorem dX6_drivesWithin_89 : decode cX6_drivesWithin 89 = .ok (.aload_n 0, 1) := by decide +kernel
theorem dX6_drivesWithin_90 : decode cX6_drivesWithin 90 = .ok (.getfield 21, 3) := by decide +kernel
theorem dX6_drivesWithin_93 : decode cX6_drivesWithin 93 = .ok (.getfield 60, 3) := by decide +kernel
theorem dX6_drivesWithin_96 : decode cX6_drivesWithin 96 = .ok (.getfield 66, 3) := by decide +kernel
theorem dX6_drivesWithin_99 : decode cX6_drivesWithin 99 = .ok (.if_icmp .ge 48, 3) := by decide +kernel
theorem dX6_drivesWithin_102 : decode cX6_drivesWithin 102 = .ok (.aload_n 0, 1) := by decide +kernel
theorem dX6_drivesWithin_103 : decode cX6_drivesWithin 103 = .ok (.getfield 17, 3) := by decide +kernel
theorem dX6_drivesWithin_106 : decode cX6_drivesWithin 106 = .ok (.iload_n 1, 1) := by decide +kernel
theorem dX6_drivesWithin_107 : decode cX6_drivesWithin 107 = .ok (.iload 4, 2) := by decide +kernel
theorem dX6_drivesWithin_109 : decode cX6_drivesWithin 109 = .ok (.iastore, 1) := by decide +kernel
theorem dX6_drivesWithin_110 : decode cX6_drivesWithin 110 = .ok (.aload_n 0, 1) := by decide +kernel
theorem dX6_drivesWithin_111 : decode cX6_drivesWithin 111 = .ok (.getfield 21, 3) := by decide +kernel
theorem dX6_drivesWithin_114 : decode cX6_drivesWithin 114 = .ok (.aload_n 3, 1) := by decide +kernel
theorem dX6_drivesWithin_115 : decode cX6_drivesWithin 115 = .ok (.aload_n 0, 1) := by decide +kernel
theorem dX6_drivesWithin_116 : decode cX6_drivesWithin 116 = .ok (.getfield 43, 3) := by decide +kernel
theorem dX6_drivesWithin_119 : decode cX6_drivesWithin 119 = .ok (.iload 4, 2) := by decide +kernel
theorem dX6_drivesWithin_121 : decode cX6_drivesWithin 121 = .ok (.iconst 0, 1) := by decide +kernel
theorem dX6_drivesWithin_122 : decode cX6_drivesWithin 122 = .ok (.invokevirtual 74, 3) := by decide +kernel
theorem dX6_drivesWithin_125 : decode cX6_drivesWithin 125 = .ok (.ifCond .eq 16, 3) := by decide +kernel
theorem dX6_drivesWithin_128 : decode cX6_drivesWithin 128 = .ok (.aload_n 0, 1) := by decide +kernel
theorem dX6_drivesWithin_129 : decode cX6_drivesWithin 129 = .ok (.iload_n 1, 1) := by decide +kernel
theorem dX6_drivesWithin_130 : decode cX6_drivesWithin 130 = .ok (.iload_n 2, 1) := by decide +kernel
theorem dX6_drivesWithin_131 : decode cX6_drivesWithin 131 = .ok (.iload 4, 2) := by decide +kernel
theorem dX6_drivesWithin_133 : decode cX6_drivesWithin 133 = .ok (.invokevirtual 131, 3) := by decide +kernel
theorem dX6_drivesWithin_136 : decode cX6_drivesWithin 136 = .ok (.ifCond .eq 5, 3) := by decide +kernel
theorem dX6_drivesWithin_139 : decode cX6_drivesWithin 139 = .ok (.iconst 1, 1) := by decide +kernel
theorem dX6_drivesWithin_140 : decode cX6_drivesWithin 140 = .ok (.ireturn, 1) := by decide +kernel
theorem dX6_drivesWithin_141 : decode cX6_drivesWithin 141 = .ok (.iinc 4 1, 3) := by decide +kernel
theorem dX6_drivesWithin_144 : decode cX6_drivesWithin 144 = .ok (.goto (-57), 3) := by decide +kernel
theorem dX6_drivesWithin_147 : decode cX6_drivesWithin 147 = .ok (.iconst 0, 1) := by decide +kernel
theorem dX6_drivesWithin_148 : decode cX6_drivesWithin 148 = .ok (.ireturn, 1) := by decide +kernel
theorem dX6_drivesByMissing_0 : decode cX6_drivesByMissing 0 = .ok (.aload_n 0, 1) := by decide +kernel
theorem dX6_drivesByMissing_1 : decode cX6_drivesByMissing 1 = .ok (.iload_n 1, 1) := by decide +kernel
theorem dX6_drivesByMissing_2 : decode cX6_drivesByMissing 2 = .ok (.invokevirtual 93, 3) := by decide +kernel
theorem dX6_drivesByMissing_5 : decode cX6_drivesByMissing 5 = .ok (.astore 4, 2) := by decide +kernel
theorem dX6_drivesByMissing_7 : decode cX6_drivesByMissing 7 = .ok (.aload_n 0, 1) := by decide +kernel
theorem dX6_drivesByMissing_8 : decode cX6_drivesByMissing 8 = .ok (.getfield 21, 3) := by decide +kernel
theorem dX6_drivesByMissing_11 : decode cX6_drivesByMissing 11 = .ok (.aload 4, 2) := by decide +kernel
theorem dX6_drivesByMissing_13 : decode cX6_drivesByMissing 13 = .ok (.aload_n 0, 1) := by decide +kernel
theorem dX6_drivesByMissing_14 : decode cX6_drivesByMissing 14 = .ok (.getfield 43, 3) := by decide +kernel
theorem dX6_drivesByMissing_17 : decode cX6_drivesByMissing 17 = .ok (.iload_n 3, 1) := by decide +kernel
theorem dX6_drivesByMissing_18 : decode cX6_drivesByMissing 18 = .ok (.iconst 0, 1) := by decide +kernel
theorem dX6_drivesByMissing_19 : decode cX6_drivesByMissing 19 = .ok (.invokevirtual 100, 3) := by decide +kernel
theorem dX6_drivesByMissing_22 : decode cX6_drivesByMissing 22 = .ok (.aload_n 0, 1) := by decide +kernel
theorem dX6_drivesByMissing_23 : decode cX6_drivesByMissing 23 = .ok (.iload_n 1, 1) := by decide +kernel
theorem dX6_drivesByMissing_24 : decode cX6_drivesByMissing 24 = .ok (.invokevirtual 35, 3) := by decide +kernel
theorem dX6_drivesByMissing_27 : decode cX6_drivesByMissing 27 = .ok (.aload 4, 2) := by decide +kernel
theorem dX6_drivesByMissing_29 : decode cX6_drivesByMissing 29 = .ok (.iload_n 3, 1) := by decide +kernel
theorem dX6_drivesByMissing_30 : decode cX6_drivesByMissing 30 = .ok (.invokestatic 135, 3) := by decide +kernel
theorem dX6_drivesByMissing_33 : decode cX6_drivesByMissing 33 = .ok (.ifCond .eq 20, 3) := by decide +kernel
theorem dX6_drivesByMissing_36 : decode cX6_drivesByMissing 36 = .ok (.aload_n 0, 1) := by decide +kernel
theorem dX6_drivesByMissing_37 : decode cX6_drivesByMissing 37 = .ok (.iload_n 1, 1) := by decide +kernel
theorem dX6_drivesByMissing_38 : decode cX6_drivesByMissing 38 = .ok (.iconst 1, 1) := by decide +kernel
theorem dX6_drivesByMissing_39 : decode cX6_drivesByMissing 39 = .ok (.iadd, 1) := by decide +kernel
theorem dX6_drivesByMissing_40 : decode cX6_drivesByMissing 40 = .ok (.iload_n 2, 1) := by decide +kernel
theorem dX6_drivesByMissing_41 : decode cX6_drivesByMissing 41 = .ok (.iconst 1, 1) := by decide +kernel
theorem dX6_drivesByMissing_42 : decode cX6_drivesByMissing 42 = .ok (.isub, 1) := by decide +kernel
theorem dX6_drivesByMissing_43 : decode cX6_drivesByMissing 43 = .ok (.invokevirtual 117, 3) := by decide +kernel
theorem dX6_drivesByMissing_46 : decode cX6_drivesByMissing 46 = .ok (.ifCond .eq 7, 3) := by decide +kernel
theorem dX6_drivesByMissing_49 : decode cX6_drivesByMissing 49 = .ok (.iconst 1, 1) := by decide +kernel
theorem dX6_drivesByMissing_50 : decode cX6_drivesByMissing 50 = .ok (.goto 4, 3) := by decide +kernel
theorem dX6_drivesByMissing_53 : decode cX6_drivesByMissing 53 = .ok (.iconst 0, 1) := by decide +kernel
theorem dX6_drivesByMissing_54 : decode cX6_drivesByMissing 54 = .ok (.ireturn, 1) := by decide +kernel
theorem dX6_isChanged_0 : decode cX6_isChanged 0 = .ok (.aload_n 0, 1) := by decide +kernel
theorem dX6_isChanged_1 : decode cX6_isChanged 1 = .ok (.getfield 139, 3) := by decide +kernel
theorem dX6_isChanged_4 : decode cX6_isChanged 4 = .ok (.iload_n 2, 1) := by decide +kernel
theorem dX6_isChanged_5 : decode cX6_isChanged 5 = .ok (.iaload, 1) := by decide +kernel
theorem dX6_isChanged_6 : decode cX6_isChanged 6 = .ok (.aload_n 1, 1) := by decide +kernel
theorem dX6_isChanged_7 : decode cX6_isChanged 7 = .ok (.getfield 139, 3) := by decide +kernel
theorem dX6_isChanged_10 : decode cX6_isChanged 10 = .ok (.iload_n 2, 1) := by decide +kernel
theorem dX6_isChanged_11 : decode cX6_isChanged 11 = .ok (.iaload, 1) := by decide +kernel
theorem dX6_isChanged_12 : decode cX6_isChanged 12 = .ok (.if_icmp .ne 33, 3) := by decide +kernel
theorem dX6_isChanged_15 : decode cX6_isChanged 15 = .ok (.aload_n 0, 1) := by decide +kernel
theorem dX6_isChanged_16 : decode cX6_isChanged 16 = .ok (.getfield 142, 3) := by decide +kernel
theorem dX6_isChanged_19 : decode cX6_isChanged 19 = .ok (.iload_n 2, 1) := by decide +kernel
theorem dX6_isChanged_20 : decode cX6_isChanged 20 = .ok (.iaload, 1) := by decide +kernel
theorem dX6_isChanged_21 : decode cX6_isChanged 21 = .ok (.aload_n 1, 1) := by decide +kernel
theorem dX6_isChanged_22 : decode cX6_isChanged 22 = .ok (.getfield 142, 3) := by decide +kernel
theorem dX6_isChanged_25 : decode cX6_isChanged 25 = .ok (.iload_n 2, 1) := by decide +kernel
theorem dX6_isChanged_26 : decode cX6_isChanged 26 = .ok (.iaload, 1) := by decide +kernel
theorem dX6_isChanged_27 : decode cX6_isChanged 27 = .ok (.if_icmp .ne 18, 3) := by decide +kernel
theorem dX6_isChanged_30 : decode cX6_isChanged 30 = .ok (.aload_n 0, 1) := by decide +kernel
theorem dX6_isChanged_31 : decode cX6_isChanged 31 = .ok (.getfield 145, 3) := by decide +kernel
theorem dX6_isChanged_34 : decode cX6_isChanged 34 = .ok (.iload_n 2, 1) := by decide +kernel
theorem dX6_isChanged_35 : decode cX6_isChanged 35 = .ok (.iaload, 1) := by decide +kernel
theorem dX6_isChanged_36 : decode cX6_isChanged 36 = .ok (.aload_n 1, 1) := by decide +kernel
theorem dX6_isChanged_37 : decode cX6_isChanged 37 = .ok (.getfield 145, 3) := by decide +kernel
theorem dX6_isChanged_40 : decode cX6_isChanged 40 = .ok (.iload_n 2, 1) := by decide +kernel
theorem dX6_isChanged_41 : decode cX6_isChanged 41 = .ok (.iaload, 1) := by decide +kernel
theorem dX6_isChanged_42 : decode cX6_isChanged 42 = .ok (.if_icmp .eq 7, 3) := by decide +kernel
theorem dX6_isChanged_45 : decode cX6_isChanged 45 = .ok (.iconst 1, 1) := by decide +kernel
theorem dX6_isChanged_46 : decode cX6_isChanged 46 = .ok (.goto 4, 3) := by decide +kernel
theorem dX6_isChanged_49 : decode cX6_isChanged 49 = .ok (.iconst 0, 1) := by decide +kernel
theorem dX6_isChanged_50 : decode cX6_isChanged 50 = .ok (.ireturn, 1) := by decide +kernel
theorem dX6_fewestWaves_0 : decode cX6_fewestWaves 0 = .ok (.aload_n 0, 1) := by decide +kernel
theorem dX6_fewestWaves_1 : decode cX6_fewestWaves 1 = .ok (.iconst 0, 1) := by decide +kernel
theorem dX6_fewestWaves_2 : decode cX6_fewestWaves 2 = .ok (.invokevirtual 35, 3) := by decide +kernel
theorem dX6_fewestWaves_5 : decode cX6_fewestWaves 5 = .ok (.aload_n 1, 1) := by decide +kernel
theorem dX6_fewestWaves_6 : decode cX6_fewestWaves 6 = .ok (.invokevirtual 39, 3) := by decide +kernel
theorem dX6_fewestWaves_9 : decode cX6_fewestWaves 9 = .ok (.aload_n 0, 1) := by decide +kernel
theorem dX6_fewestWaves_10 : decode cX6_fewestWaves 10 = .ok (.iload_n 2, 1) := by decide +kernel
theorem dX6_fewestWaves_11 : decode cX6_fewestWaves 11 = .ok (.putfield 114, 3) := by decide +kernel
theorem dX6_fewestWaves_14 : decode cX6_fewestWaves 14 = .ok (.aload_n 0, 1) := by decide +kernel
theorem dX6_fewestWaves_15 : decode cX6_fewestWaves 15 = .ok (.iload_n 3, 1) := by decide +kernel
theorem dX6_fewestWaves_16 : decode cX6_fewestWaves 16 = .ok (.putfield 148, 3) := by decide +kernel
theorem dX6_fewestWaves_19 : decode cX6_fewestWaves 19 = .ok (.aload_n 0, 1) := by decide +kernel
theorem dX6_fewestWaves_20 : decode cX6_fewestWaves 20 = .ok (.iload 4, 2) := by decide +kernel
theorem dX6_fewestWaves_22 : decode cX6_fewestWaves 22 = .ok (.putfield 151, 3) := by decide +kernel
theorem dX6_fewestWaves_25 : decode cX6_fewestWaves 25 = .ok (.iconst 0, 1) := by decide +kernel
theorem dX6_fewestWaves_26 : decode cX6_fewestWaves 26 = .ok (.istore 5, 2) := by decide +kernel
theorem dX6_fewestWaves_28 : decode cX6_fewestWaves 28 = .ok (.iload 5, 2) := by decide +kernel
theorem dX6_fewestWaves_30 : decode cX6_fewestWaves 30 = .ok (.bipush 6, 2) := by decide +kernel
theorem dX6_fewestWaves_32 : decode cX6_fewestWaves 32 = .ok (.if_icmp .gt 22, 3) := by decide +kernel
theorem dX6_fewestWaves_35 : decode cX6_fewestWaves 35 = .ok (.aload_n 0, 1) := by decide +kernel
theorem dX6_fewestWaves_36 : decode cX6_fewestWaves 36 = .ok (.iconst 0, 1) := by decide +kernel
theorem dX6_fewestWaves_37 : decode cX6_fewestWaves 37 = .ok (.iload 5, 2) := by decide +kernel
theorem dX6_fewestWaves_39 : decode cX6_fewestWaves 39 = .ok (.invokevirtual 154, 3) := by decide +kernel
theorem dX6_fewestWaves_42 : decode cX6_fewestWaves 42 = .ok (.ifCond .eq 6, 3) := by decide +kernel
theorem dX6_fewestWaves_45 : decode cX6_fewestWaves 45 = .ok (.iload 5, 2) := by decide +kernel
theorem dX6_fewestWaves_47 : decode cX6_fewestWaves 47 = .ok (.ireturn, 1) := by decide +kernel
theorem dX6_fewestWaves_48 : decode cX6_fewestWaves 48 = .ok (.iinc 5 1, 3) := by decide +kernel
theorem dX6_fewestWaves_51 : decode cX6_fewestWaves 51 = .ok (.goto (-23), 3) := by decide +kernel
theorem dX6_fewestWaves_54 : decode cX6_fewestWaves 54 = .ok (.iconst (-1), 1) := by decide +kernel
theorem dX6_fewestWaves_55 : decode cX6_fewestWaves 55 = .ok (.ireturn, 1) := by decide +kernel
theorem dX6_wavesWithin_0 : decode cX6_wavesWithin 0 = .ok (.aload_n 0, 1) := by decide +kernel
theorem dX6_wavesWithin_1 : decode cX6_wavesWithin 1 = .ok (.iload_n 1, 1) := by decide +kernel
theorem dX6_wavesWithin_2 : decode cX6_wavesWithin 2 = .ok (.invokevirtual 35, 3) := by decide +kernel
theorem dX6_wavesWithin_5 : decode cX6_wavesWithin 5 = .ok (.astore_n 3, 1) := by decide +kernel
theorem dX6_wavesWithin_6 : decode cX6_wavesWithin 6 = .ok (.aload_n 3, 1) := by decide +kernel
theorem dX6_wavesWithin_7 : decode cX6_wavesWithin 7 = .ok (.getfield 139, 3) := by decide +kernel
theorem dX6_wavesWithin_10 : decode cX6_wavesWithin 10 = .ok (.aload_n 0, 1) := by decide +kernel
theorem dX6_wavesWithin_11 : decode cX6_wavesWithin 11 = .ok (.getfield 114, 3) := by decide +kernel
theorem dX6_wavesWithin_14 : decode cX6_wavesWithin 14 = .ok (.iaload, 1) := by decide +kernel
theorem dX6_wavesWithin_15 : decode cX6_wavesWithin 15 = .ok (.aload_n 0, 1) := by decide +kernel
theorem dX6_wavesWithin_16 : decode cX6_wavesWithin 16 = .ok (.getfield 148, 3) := by decide +kernel
theorem dX6_wavesWithin_19 : decode cX6_wavesWithin 19 = .ok (.isub, 1) := by decide +kernel
theorem dX6_wavesWithin_20 : decode cX6_wavesWithin 20 = .ok (.invokestatic 157, 3) := by decide +kernel
theorem dX6_wavesWithin_23 : decode cX6_wavesWithin 23 = .ok (.aload_n 3, 1) := by decide +kernel
theorem dX6_wavesWithin_24 : decode cX6_wavesWithin 24 = .ok (.getfield 142, 3) := by decide +kernel
theorem dX6_wavesWithin_27 : decode cX6_wavesWithin 27 = .ok (.aload_n 0, 1) := by decide +kernel
theorem dX6_wavesWithin_28 : decode cX6_wavesWithin 28 = .ok (.getfield 114, 3) := by decide +kernel
theorem dX6_wavesWithin_31 : decode cX6_wavesWithin 31 = .ok (.iaload, 1) := by decide +kernel
theorem dX6_wavesWithin_32 : decode cX6_wavesWithin 32 = .ok (.aload_n 0, 1) := by decide +kernel
theorem dX6_wavesWithin_33 : decode cX6_wavesWithin 33 = .ok (.getfield 151, 3) := by decide +kernel
theorem dX6_wavesWithin_36 : decode cX6_wavesWithin 36 = .ok (.isub, 1) := by decide +kernel
theorem dX6_wavesWithin_37 : decode cX6_wavesWithin 37 = .ok (.invokestatic 157, 3) := by decide +kernel
theorem dX6_wavesWithin_40 : decode cX6_wavesWithin 40 = .ok (.iadd, 1) := by decide +kernel
theorem dX6_wavesWithin_41 : decode cX6_wavesWithin 41 = .ok (.istore 4, 2) := by decide +kernel
theorem dX6_wavesWithin_43 : decode cX6_wavesWithin 43 = .ok (.iload_n 2, 1) := by decide +kernel
theorem dX6_wavesWithin_44 : decode cX6_wavesWithin 44 = .ok (.ifCond .le 15, 3) := by decide +kernel
theorem dX6_wavesWithin_47 : decode cX6_wavesWithin 47 = .ok (.iload_n 1, 1) := by decide +kernel
theorem dX6_wavesWithin_48 : decode cX6_wavesWithin 48 = .ok (.bipush 6, 2) := by decide +kernel
theorem dX6_wavesWithin_50 : decode cX6_wavesWithin 50 = .ok (.if_icmp .ge 9, 3) := by decide +kernel
theorem dX6_wavesWithin_53 : decode cX6_wavesWithin 53 = .ok (.iload 4, 2) := by decide +kernel
theorem dX6_wavesWithin_55 : decode cX6_wavesWithin 55 = .ok (.iload_n 2, 1) := by decide +kernel
theorem dX6_wavesWithin_56 : decode cX6_wavesWithin 56 = .ok (.if_icmp .le 14, 3) := by decide +kernel
theorem dX6_wavesWithin_59 : decode cX6_wavesWithin 59 = .ok (.iload 4, 2) := by decide +kernel
theorem dX6_wavesWithin_61 : decode cX6_wavesWithin 61 = .ok (.ifCond .ne 7, 3) := by decide +kernel
theorem dX6_wavesWithin_64 : decode cX6_wavesWithin 64 = .ok (.iconst 1, 1) := by decide +kernel
theorem dX6_wavesWithin_65 : decode cX6_wavesWithin 65 = .ok (.goto 4, 3) := by decide +kernel
theorem dX6_wavesWithin_68 : decode cX6_wavesWithin 68 = .ok (.iconst 0, 1) := by decide +kernel
theorem dX6_wavesWithin_69 : decode cX6_wavesWithin 69 = .ok (.ireturn, 1) := by decide +kernel
theorem dX6_wavesWithin_70 : decode cX6_wavesWithin 70 = .ok (.iconst 0, 1) := by decide +kernel
theorem dX6_wavesWithin_71 : decode cX6_wavesWithin 71 = .ok (.istore 5, 2) := by decide +kernel
theorem dX6_wavesWithin_73 : decode cX6_wavesWithin 73 = .ok (.iload 5, 2) := by decide +kernel
theorem dX6_wavesWithin_75 : decode cX6_wavesWithin 75 = .ok (.iconst 4, 1) := by decide +kernel
theorem dX6_wavesWithin_76 : decode cX6_wavesWithin 76 = .ok (.if_icmp .ge 30, 3) := by decide +kernel
theorem dX6_wavesWithin_79 : decode cX6_wavesWithin 79 = .ok (.aload_n 0, 1) := by decide +kernel
theorem dX6_wavesWithin_80 : decode cX6_wavesWithin 80 = .ok (.getfield 17, 3) := by decide +kernel
theorem dX6_wavesWithin_83 : decode cX6_wavesWithin 83 = .ok (.iload_n 1, 1) := by decide +kernel
theorem dX6_wavesWithin_84 : decode cX6_wavesWithin 84 = .ok (.iload 5, 2) := by decide +kernel
theorem dX6_wavesWithin_86 : decode cX6_wavesWithin 86 = .ok (.iastore, 1) := by decide +kernel
theorem dX6_wavesWithin_87 : decode cX6_wavesWithin 87 = .ok (.aload_n 0, 1) := by decide +kernel
theorem dX6_wavesWithin_88 : decode cX6_wavesWithin 88 = .ok (.iload_n 1, 1) := by decide +kernel
theorem dX6_wavesWithin_89 : decode cX6_wavesWithin 89 = .ok (.iload_n 2, 1) := by decide +kernel
theorem dX6_wavesWithin_90 : decode cX6_wavesWithin 90 = .ok (.iload 5, 2) := by decide +kernel
theorem dX6_wavesWithin_92 : decode cX6_wavesWithin 92 = .ok (.invokevirtual 161, 3) := by decide +kernel
theorem dX6_wavesWithin_95 : decode cX6_wavesWithin 95 = .ok (.ifCond .eq 5, 3) := by decide +kernel
theorem dX6_wavesWithin_98 : decode cX6_wavesWithin 98 = .ok (.iconst 1, 1) := by decide +kernel
theorem dX6_wavesWithin_99 : decode cX6_wavesWithin 99 = .ok (.ireturn, 1) := by decide +kernel
theorem dX6_wavesWithin_100 : decode cX6_wavesWithin 100 = .ok (.iinc 5 1, 3) := by decide +kernel
theorem dX6_wavesWithin_103 : decode cX6_wavesWithin 103 = .ok (.goto (-30), 3) := by decide +kernel
theorem dX6_wavesWithin_106 : decode cX6_wavesWithin 106 = .ok (.iconst 0, 1) := by decide +kernel
theorem dX6_wavesWithin_107 : decode cX6_wavesWithin 107 = .ok (.ireturn, 1) := by decide +kernel
theorem dX6_wavesBySide_0 : decode cX6_wavesBySide 0 = .ok (.aload_n 0, 1) := by decide +kernel
theorem dX6_wavesBySide_1 : decode cX6_wavesBySide 1 = .ok (.getfield 21, 3) := by decide +kernel
theorem dX6_wavesBySide_4 : decode cX6_wavesBySide 4 = .ok (.aload_n 0, 1) := by decide +kernel
theorem dX6_wavesBySide_5 : decode cX6_wavesBySide 5 = .ok (.iload_n 1, 1) := by decide +kernel
theorem dX6_wavesBySide_6 : decode cX6_wavesBySide 6 = .ok (.invokevirtual 93, 3) := by decide +kernel
theorem dX6_wavesBySide_9 : decode cX6_wavesBySide 9 = .ok (.iload_n 3, 1) := by decide +kernel
theorem dX6_wavesBySide_10 : decode cX6_wavesBySide 10 = .ok (.invokevirtual 164, 3) := by decide +kernel
theorem dX6_wavesBySide_13 : decode cX6_wavesBySide 13 = .ok (.ifCond .le 20, 3) := by decide +kernel
theorem dX6_wavesBySide_16 : decode cX6_wavesBySide 16 = .ok (.aload_n 0, 1) := by decide +kernel
theorem dX6_wavesBySide_17 : decode cX6_wavesBySide 17 = .ok (.iload_n 1, 1) := by decide +kernel
theorem dX6_wavesBySide_18 : decode cX6_wavesBySide 18 = .ok (.iconst 1, 1) := by decide +kernel
theorem dX6_wavesBySide_19 : decode cX6_wavesBySide 19 = .ok (.iadd, 1) := by decide +kernel
theorem dX6_wavesBySide_20 : decode cX6_wavesBySide 20 = .ok (.iload_n 2, 1) := by decide +kernel
theorem dX6_wavesBySide_21 : decode cX6_wavesBySide 21 = .ok (.iconst 1, 1) := by decide +kernel
theorem dX6_wavesBySide_22 : decode cX6_wavesBySide 22 = .ok (.isub, 1) := by decide +kernel
theorem dX6_wavesBySide_23 : decode cX6_wavesBySide 23 = .ok (.invokevirtual 154, 3) := by decide +kernel
theorem dX6_wavesBySide_26 : decode cX6_wavesBySide 26 = .ok (.ifCond .eq 7, 3) := by decide +kernel
theorem dX6_wavesBySide_29 : decode cX6_wavesBySide 29 = .ok (.iconst 1, 1) := by decide +kernel
theorem dX6_wavesBySide_30 : decode cX6_wavesBySide 30 = .ok (.goto 4, 3) := by decide +kernel
theorem dX6_wavesBySide_33 : decode cX6_wavesBySide 33 = .ok (.iconst 0, 1) := by decide +kernel
theorem dX6_wavesBySide_34 : decode cX6_wavesBySide 34 = .ok (.ireturn, 1) := by decide +kernel
theorem dX7_init_0 : decode cX7_init 0 = .ok (.aload_n 0, 1) := by decide +kernel
theorem dX7_init_1 : decode cX7_init 1 = .ok (.invokespecial 3, 3) := by decide +kernel
theorem dX7_init_4 : decode cX7_init 4 = .ok (.aload_n 0, 1) := by decide +kernel
theorem dX7_init_5 : decode cX7_init 5 = .ok (.bipush 10, 2) := by decide +kernel
theorem dX7_init_7 : decode cX7_init 7 = .ok (.newarray .int, 2) := by decide +kernel
theorem dX7_init_9 : decode cX7_init 9 = .ok (.putfield 9, 3) := by decide +kernel
theorem dX7_init_12 : decode cX7_init 12 = .ok (.aload_n 0, 1) := by decide +kernel
theorem dX7_init_13 : decode cX7_init 13 = .ok (.bipush 10, 2) := by decide +kernel
theorem dX7_init_15 : decode cX7_init 15 = .ok (.newarray .int, 2) := by decide +kernel
theorem dX7_init_17 : decode cX7_init 17 = .ok (.putfield 15, 3) := by decide +kernel
theorem dX7_init_20 : decode cX7_init 20 = .ok (.aload_n 0, 1) := by decide +kernel
theorem dX7_init_21 : decode cX7_init 21 = .ok (.bipush 10, 2) := by decide +kernel
theorem dX7_init_23 : decode cX7_init 23 = .ok (.newarray .int, 2) := by decide +kernel
theorem dX7_init_25 : decode cX7_init 25 = .ok (.putfield 18, 3) := by decide +kernel
theorem dX7_init_28 : decode cX7_init 28 = .ok (.aload_n 0, 1) := by decide +kernel
theorem dX7_init_29 : decode cX7_init 29 = .ok (.bipush 10, 2) := by decide +kernel
theorem dX7_init_31 : decode cX7_init 31 = .ok (.newarray .int, 2) := by decide +kernel
theorem dX7_init_33 : decode cX7_init 33 = .ok (.putfield 21, 3) := by decide +kernel
theorem dX7_init_36 : decode cX7_init 36 = .ok (.aload_n 0, 1) := by decide +kernel
theorem dX7_init_37 : decode cX7_init 37 = .ok (.bipush 10, 2) := by decide +kernel
theorem dX7_init_39 : decode cX7_init 39 = .ok (.newarray .int, 2) := by decide +kernel
theorem dX7_init_41 : decode cX7_init 41 = .ok (.putfield 24, 3) := by decide +kernel
theorem dX7_init_44 : decode cX7_init 44 = .ok (.aload_n 0, 1) := by decide +kernel
theorem dX7_init_45 : decode cX7_init 45 = .ok (.iconst 4, 1) := by decide +kernel
theorem dX7_init_46 : decode cX7_init 46 = .ok (.newarray .int, 2) := by decide +kernel
theorem dX7_init_48 : decode cX7_init 48 = .ok (.putfield 27, 3) := by decide +kernel
theorem dX7_init_51 : decode cX7_init 51 = .ok (.aload_n 0, 1) := by decide +kernel
theorem dX7_init_52 : decode cX7_init 52 = .ok (.iconst 4, 1) := by decide +kernel
theorem dX7_init_53 : decode cX7_init 53 = .ok (.newarray .int, 2) := by decide +kernel
theorem dX7_init_55 : decode cX7_init 55 = .ok (.putfield 30, 3) := by decide +kernel
theorem dX7_init_58 : decode cX7_init 58 = .ok (.aload_n 0, 1) := by decide +kernel
theorem dX7_init_59 : decode cX7_init 59 = .ok (.iconst 4, 1) := by decide +kernel
theorem dX7_init_60 : decode cX7_init 60 = .ok (.newarray .int, 2) := by decide +kernel
theorem dX7_init_62 : decode cX7_init 62 = .ok (.putfield 33, 3) := by decide +kernel
theorem dX7_init_65 : decode cX7_init 65 = .ok (.aload_n 0, 1) := by decide +kernel
theorem dX7_init_66 : decode cX7_init 66 = .ok (.iconst 4, 1) := by decide +kernel
theorem dX7_init_67 : decode cX7_init 67 = .ok (.newarray .int, 2) := by decide +kernel
theorem dX7_init_69 : decode cX7_init 69 = .ok (.putfield 36, 3) := by decide +kernel
theorem dX7_init_72 : decode cX7_init 72 = .ok (.aload_n 0, 1) := by decide +kernel
theorem dX7_init_73 : decode cX7_init 73 = .ok (.iconst 4, 1) := by decide +kernel
theorem dX7_init_74 : decode cX7_init 74 = .ok (.newarray .int, 2) := by decide +kernel
theorem dX7_init_76 : decode cX7_init 76 = .ok (.putfield 39, 3) := by decide +kernel
theorem dX7_init_79 : decode cX7_init 79 = .ok (.aload_n 0, 1) := by decide +kernel
theorem dX7_init_80 : decode cX7_init 80 = .ok (.bipush 60, 2) := by decide +kernel
theorem dX7_init_82 : decode cX7_init 82 = .ok (.newarray .int, 2) := by decide +kernel
theorem dX7_init_84 : decode cX7_init 84 = .ok (.putfield 42, 3) := by decide +kernel
theorem dX7_init_87 : decode cX7_init 87 = .ok (.return_, 1) := by decide +kernel
theorem dX7_recordAt_0 : decode cX7_recordAt 0 = .ok (.iload_n 0, 1) := by decide +kernel
theorem dX7_recordAt_1 : decode cX7_recordAt 1 = .ok (.iconst 5, 1) := by decide +kernel
theorem dX7_recordAt_2 : decode cX7_recordAt 2 = .ok (.imul, 1) := by decide +kernel
theorem dX7_recordAt_3 : decode cX7_recordAt 3 = .ok (.iload_n 1, 1) := by decide +kernel
theorem dX7_recordAt_4 : decode cX7_recordAt 4 = .ok (.iadd, 1) := by decide +kernel
theorem dX7_recordAt_5 : decode cX7_recordAt 5 = .ok (.iconst 3, 1) := by decide +kernel
theorem dX7_recordAt_6 : decode cX7_recordAt 6 = .ok (.imul, 1) := by decide +kernel
theorem dX7_recordAt_7 : decode cX7_recordAt 7 = .ok (.ireturn, 1) := by decide +kernel
theorem dX7_begin_0 : decode cX7_begin 0 = .ok (.aload_n 1, 1) := by decide +kernel
theorem dX7_begin_1 : decode cX7_begin 1 = .ok (.getfield 45, 3) := by decide +kernel
theorem dX7_begin_4 : decode cX7_begin 4 = .ok (.iconst 0, 1) := by decide +kernel
theorem dX7_begin_5 : decode cX7_begin 5 = .ok (.aload_n 0, 1) := by decide +kernel
theorem dX7_begin_6 : decode cX7_begin 6 = .ok (.getfield 9, 3) := by decide +kernel
theorem dX7_begin_9 : decode cX7_begin 9 = .ok (.iconst 0, 1) := by decide +kernel
theorem dX7_begin_10 : decode cX7_begin 10 = .ok (.bipush 10, 2) := by decide +kernel
theorem dX7_begin_12 : decode cX7_begin 12 = .ok (.invokestatic 48, 3) := by decide +kernel
theorem dX7_begin_15 : decode cX7_begin 15 = .ok (.aload_n 1, 1) := by decide +kernel
theorem dX7_begin_16 : decode cX7_begin 16 = .ok (.getfield 54, 3) := by decide +kernel
theorem dX7_begin_19 : decode cX7_begin 19 = .ok (.iconst 0, 1) := by decide +kernel
theorem dX7_begin_20 : decode cX7_begin 20 = .ok (.aload_n 0, 1) := by decide +kernel
theorem dX7_begin_21 : decode cX7_begin 21 = .ok (.getfield 15, 3) := by decide +kernel
theorem dX7_begin_24 : decode cX7_begin 24 = .ok (.iconst 0, 1) := by decide +kernel
theorem dX7_begin_25 : decode cX7_begin 25 = .ok (.bipush 10, 2) := by decide +kernel
theorem dX7_begin_27 : decode cX7_begin 27 = .ok (.invokestatic 48, 3) := by decide +kernel
theorem dX7_begin_30 : decode cX7_begin 30 = .ok (.aload_n 0, 1) := by decide +kernel
theorem dX7_begin_31 : decode cX7_begin 31 = .ok (.getfield 18, 3) := by decide +kernel
theorem dX7_begin_34 : decode cX7_begin 34 = .ok (.iconst (-1), 1) := by decide +kernel
theorem dX7_begin_35 : decode cX7_begin 35 = .ok (.invokestatic 55, 3) := by decide +kernel
theorem dX7_begin_38 : decode cX7_begin 38 = .ok (.aload_n 0, 1) := by decide +kernel
theorem dX7_begin_39 : decode cX7_begin 39 = .ok (.getfield 21, 3) := by decide +kernel
theorem dX7_begin_42 : decode cX7_begin 42 = .ok (.iconst 0, 1) := by decide +kernel
theorem dX7_begin_43 : decode cX7_begin 43 = .ok (.invokestatic 55, 3) := by decide +kernel
theorem dX7_begin_46 : decode cX7_begin 46 = .ok (.aload_n 1, 1) := by decide +kernel
theorem dX7_begin_47 : decode cX7_begin 47 = .ok (.getfield 61, 3) := by decide +kernel
theorem dX7_begin_50 : decode cX7_begin 50 = .ok (.iconst 0, 1) := by decide +kernel
theorem dX7_begin_51 : decode cX7_begin 51 = .ok (.aload_n 0, 1) := by decide +kernel
theorem dX7_begin_52 : decode cX7_begin 52 = .ok (.getfield 24, 3) := by decide +kernel
theorem dX7_begin_55 : decode cX7_begin 55 = .ok (.iconst 0, 1) := by decide +kernel
theorem dX7_begin_56 : decode cX7_begin 56 = .ok (.bipush 10, 2) := by decide +kernel
theorem dX7_begin_58 : decode cX7_begin 58 = .ok (.invokestatic 48, 3) := by decide +kernel
theorem dX7_begin_61 : decode cX7_begin 61 = .ok (.aload_n 1, 1) := by decide +kernel
theorem dX7_begin_62 : decode cX7_begin 62 = .ok (.getfield 62, 3) := by decide +kernel
theorem dX7_begin_65 : decode cX7_begin 65 = .ok (.iconst 0, 1) := by decide +kernel
theorem dX7_begin_66 : decode cX7_begin 66 = .ok (.aload_n 0, 1) := by decide +kernel
theorem dX7_begin_67 : decode cX7_begin 67 = .ok (.getfield 27, 3) := by decide +kernel
theorem dX7_begin_70 : decode cX7_begin 70 = .ok (.iconst 0, 1) := by decide +kernel
theorem dX7_begin_71 : decode cX7_begin 71 = .ok (.iconst 4, 1) := by decide +kernel
theorem dX7_begin_72 : decode cX7_begin 72 = .ok (.invokestatic 48, 3) := by decide +kernel
theorem dX7_begin_75 : decode cX7_begin 75 = .ok (.aload_n 1, 1) := by decide +kernel
theorem dX7_begin_76 : decode cX7_begin 76 = .ok (.getfield 63, 3) := by decide +kernel
theorem dX7_begin_79 : decode cX7_begin 79 = .ok (.iconst 0, 1) := by decide +kernel
theorem dX7_begin_80 : decode cX7_begin 80 = .ok (.aload_n 0, 1) := by decide +kernel
theorem dX7_begin_81 : decode cX7_begin 81 = .ok (.getfield 30, 3) := by decide +kernel
theorem dX7_begin_84 : decode cX7_begin 84 = .ok (.iconst 0, 1) := by decide +kernel
theorem dX7_begin_85 : decode cX7_begin 85 = .ok (.iconst 4, 1) := by decide +kernel
theorem dX7_begin_86 : decode cX7_begin 86 = .ok (.invokestatic 48, 3) := by decide +kernel
theorem dX7_begin_89 : decode cX7_begin 89 = .ok (.aload_n 1, 1) := by decide +kernel
theorem dX7_begin_90 : decode cX7_begin 90 = .ok (.getfield 64, 3) := by decide +kernel
theorem dX7_begin_93 : decode cX7_begin 93 = .ok (.iconst 0, 1) := by decide +kernel
theorem dX7_begin_94 : decode cX7_begin 94 = .ok (.aload_n 0, 1) := by decide +kernel
theorem dX7_begin_95 : decode cX7_begin 95 = .ok (.getfield 33, 3) := by decide +kernel
theorem dX7_begin_98 : decode cX7_begin 98 = .ok (.iconst 0, 1) := by decide +kernel
theorem dX7_begin_99 : decode cX7_begin 99 = .ok (.iconst 4, 1) := by decide +kernel
theorem dX7_begin_100 : decode cX7_begin 100 = .ok (.invokestatic 48, 3) := by decide +kernel
theorem dX7_begin_103 : decode cX7_begin 103 = .ok (.aload_n 0, 1) := by decide +kernel
theorem dX7_begin_104 : decode cX7_begin 104 = .ok (.getfield 36, 3) := by decide +kernel
theorem dX7_begin_107 : decode cX7_begin 107 = .ok (.iconst 0, 1) := by decide +kernel
theorem dX7_begin_108 : decode cX7_begin 108 = .ok (.invokestatic 55, 3) := by decide +kernel
theorem dX7_begin_111 : decode cX7_begin 111 = .ok (.aload_n 0, 1) := by decide +kernel
theorem dX7_begin_112 : decode cX7_begin 112 = .ok (.getfield 39, 3) := by decide +kernel
theorem dX7_begin_115 : decode cX7_begin 115 = .ok (.iconst 0, 1) := by decide +kernel
theorem dX7_begin_116 : decode cX7_begin 116 = .ok (.invokestatic 55, 3) := by decide +kernel
theorem dX7_begin_119 : decode cX7_begin 119 = .ok (.aload_n 0, 1) := by decide +kernel
theorem dX7_begin_120 : decode cX7_begin 120 = .ok (.getfield 42, 3) := by decide +kernel
theorem dX7_begin_123 : decode cX7_begin 123 = .ok (.iconst 0, 1) := by decide +kernel
theorem dX7_begin_124 : decode cX7_begin 124 = .ok (.invokestatic 55, 3) := by decide +kernel
theorem dX7_begin_127 : decode cX7_begin 127 = .ok (.aload_n 0, 1) := by decide +kernel
theorem dX7_begin_128 : decode cX7_begin 128 = .ok (.aload_n 1, 1) := by decide +kernel
theorem dX7_begin_129 : decode cX7_begin 129 = .ok (.getfield 65, 3) := by decide +kernel
theorem dX7_begin_132 : decode cX7_begin 132 = .ok (.putfield 69, 3) := by decide +kernel
theorem dX7_begin_135 : decode cX7_begin 135 = .ok (.return_, 1) := by decide +kernel
theorem dX7_copyPlay_0 : decode cX7_copyPlay 0 = .ok (.aload_n 1, 1) := by decide +kernel
theorem dX7_copyPlay_1 : decode cX7_copyPlay 1 = .ok (.getfield 9, 3) := by decide +kernel
theorem dX7_copyPlay_4 : decode cX7_copyPlay 4 = .ok (.iconst 0, 1) := by decide +kernel
theorem dX7_copyPlay_5 : decode cX7_copyPlay 5 = .ok (.aload_n 0, 1) := by decide +kernel
theorem dX7_copyPlay_6 : decode cX7_copyPlay 6 = .ok (.getfield 9, 3) := by decide +kernel
theorem dX7_copyPlay_9 : decode cX7_copyPlay 9 = .ok (.iconst 0, 1) := by decide +kernel
theorem dX7_copyPlay_10 : decode cX7_copyPlay 10 = .ok (.bipush 10, 2) := by decide +kernel
theorem dX7_copyPlay_12 : decode cX7_copyPlay 12 = .ok (.invokestatic 48, 3) := by decide +kernel
theorem dX7_copyPlay_15 : decode cX7_copyPlay 15 = .ok (.aload_n 1, 1) := by decide +kernel
theorem dX7_copyPlay_16 : decode cX7_copyPlay 16 = .ok (.getfield 15, 3) := by decide +kernel
theorem dX7_copyPlay_19 : decode cX7_copyPlay 19 = .ok (.iconst 0, 1) := by decide +kernel
theorem dX7_copyPlay_20 : decode cX7_copyPlay 20 = .ok (.aload_n 0, 1) := by decide +kernel
theorem dX7_copyPlay_21 : decode cX7_copyPlay 21 = .ok (.getfield 15, 3) := by decide +kernel
theorem dX7_copyPlay_24 : decode cX7_copyPlay 24 = .ok (.iconst 0, 1) := by decide +kernel
theorem dX7_copyPlay_25 : decode cX7_copyPlay 25 = .ok (.bipush 10, 2) := by decide +kernel
theorem dX7_copyPlay_27 : decode cX7_copyPlay 27 = .ok (.invokestatic 48, 3) := by decide +kernel
theorem dX7_copyPlay_30 : decode cX7_copyPlay 30 = .ok (.aload_n 1, 1) := by decide +kernel
theorem dX7_copyPlay_31 : decode cX7_copyPlay 31 = .ok (.getfield 18, 3) := by decide +kernel
theorem dX7_copyPlay_34 : decode cX7_copyPlay 34 = .ok (.iconst 0, 1) := by decide +kernel
theorem dX7_copyPlay_35 : decode cX7_copyPlay 35 = .ok (.aload_n 0, 1) := by decide +kernel
theorem dX7_copyPlay_36 : decode cX7_copyPlay 36 = .ok (.getfield 18, 3) := by decide +kernel
theorem dX7_copyPlay_39 : decode cX7_copyPlay 39 = .ok (.iconst 0, 1) := by decide +kernel
theorem dX7_copyPlay_40 : decode cX7_copyPlay 40 = .ok (.bipush 10, 2) := by decide +kernel
theorem dX7_copyPlay_42 : decode cX7_copyPlay 42 = .ok (.invokestatic 48, 3) := by decide +kernel
theorem dX7_copyPlay_45 : decode cX7_copyPlay 45 = .ok (.aload_n 1, 1) := by decide +kernel
theorem dX7_copyPlay_46 : decode cX7_copyPlay 46 = .ok (.getfield 21, 3) := by decide +kernel
theorem dX7_copyPlay_49 : decode cX7_copyPlay 49 = .ok (.iconst 0, 1) := by decide +kernel
theorem dX7_copyPlay_50 : decode cX7_copyPlay 50 = .ok (.aload_n 0, 1) := by decide +kernel
theorem dX7_copyPlay_51 : decode cX7_copyPlay 51 = .ok (.getfield 21, 3) := by decide +kernel
theorem dX7_copyPlay_54 : decode cX7_copyPlay 54 = .ok (.iconst 0, 1) := by decide +kernel
theorem dX7_copyPlay_55 : decode cX7_copyPlay 55 = .ok (.bipush 10, 2) := by decide +kernel
theorem dX7_copyPlay_57 : decode cX7_copyPlay 57 = .ok (.invokestatic 48, 3) := by decide +kernel
theorem dX7_copyPlay_60 : decode cX7_copyPlay 60 = .ok (.aload_n 1, 1) := by decide +kernel
theorem dX7_copyPlay_61 : decode cX7_copyPlay 61 = .ok (.getfield 24, 3) := by decide +kernel
theorem dX7_copyPlay_64 : decode cX7_copyPlay 64 = .ok (.iconst 0, 1) := by decide +kernel
theorem dX7_copyPlay_65 : decode cX7_copyPlay 65 = .ok (.aload_n 0, 1) := by decide +kernel
theorem dX7_copyPlay_66 : decode cX7_copyPlay 66 = .ok (.getfield 24, 3) := by decide +kernel
theorem dX7_copyPlay_69 : decode cX7_copyPlay 69 = .ok (.iconst 0, 1) := by decide +kernel
theorem dX7_copyPlay_70 : decode cX7_copyPlay 70 = .ok (.bipush 10, 2) := by decide +kernel
theorem dX7_copyPlay_72 : decode cX7_copyPlay 72 = .ok (.invokestatic 48, 3) := by decide +kernel
theorem dX7_copyPlay_75 : decode cX7_copyPlay 75 = .ok (.aload_n 1, 1) := by decide +kernel
theorem dX7_copyPlay_76 : decode cX7_copyPlay 76 = .ok (.getfield 27, 3) := by decide +kernel
theorem dX7_copyPlay_79 : decode cX7_copyPlay 79 = .ok (.iconst 0, 1) := by decide +kernel
theorem dX7_copyPlay_80 : decode cX7_copyPlay 80 = .ok (.aload_n 0, 1) := by decide +kernel
theorem dX7_copyPlay_81 : decode cX7_copyPlay 81 = .ok (.getfield 27, 3) := by decide +kernel
theorem dX7_copyPlay_84 : decode cX7_copyPlay 84 = .ok (.iconst 0, 1) := by decide +kernel
theorem dX7_copyPlay_85 : decode cX7_copyPlay 85 = .ok (.iconst 4, 1) := by decide +kernel
theorem dX7_copyPlay_86 : decode cX7_copyPlay 86 = .ok (.invokestatic 48, 3) := by decide +kernel
theorem dX7_copyPlay_89 : decode cX7_copyPlay 89 = .ok (.aload_n 1, 1) := by decide +kernel
theorem dX7_copyPlay_90 : decode cX7_copyPlay 90 = .ok (.getfield 30, 3) := by decide +kernel
theorem dX7_copyPlay_93 : decode cX7_copyPlay 93 = .ok (.iconst 0, 1) := by decide +kernel
theorem dX7_copyPlay_94 : decode cX7_copyPlay 94 = .ok (.aload_n 0, 1) := by decide +kernel
theorem dX7_copyPlay_95 : decode cX7_copyPlay 95 = .ok (.getfield 30, 3) := by decide +kernel
theorem dX7_copyPlay_98 : decode cX7_copyPlay 98 = .ok (.iconst 0, 1) := by decide +kernel
theorem dX7_copyPlay_99 : decode cX7_copyPlay 99 = .ok (.iconst 4, 1) := by decide +kernel
theorem dX7_copyPlay_100 : decode cX7_copyPlay 100 = .ok (.invokestatic 48, 3) := by decide +kernel
theorem dX7_copyPlay_103 : decode cX7_copyPlay 103 = .ok (.aload_n 1, 1) := by decide +kernel
theorem dX7_copyPlay_104 : decode cX7_copyPlay 104 = .ok (.getfield 33, 3) := by decide +kernel
theorem dX7_copyPlay_107 : decode cX7_copyPlay 107 = .ok (.iconst 0, 1) := by decide +kernel
theorem dX7_copyPlay_108 : decode cX7_copyPlay 108 = .ok (.aload_n 0, 1) := by decide +kernel
theorem dX7_copyPlay_109 : decode cX7_copyPlay 109 = .ok (.getfield 33, 3) := by decide +kernel
theorem dX7_copyPlay_112 : decode cX7_copyPlay 112 = .ok (.iconst 0, 1) := by decide +kernel
theorem dX7_copyPlay_113 : decode cX7_copyPlay 113 = .ok (.iconst 4, 1) := by decide +kernel
theorem dX7_copyPlay_114 : decode cX7_copyPlay 114 = .ok (.invokestatic 48, 3) := by decide +kernel
theorem dX7_copyPlay_117 : decode cX7_copyPlay 117 = .ok (.aload_n 1, 1) := by decide +kernel
theorem dX7_copyPlay_118 : decode cX7_copyPlay 118 = .ok (.getfield 36, 3) := by decide +kernel
theorem dX7_copyPlay_121 : decode cX7_copyPlay 121 = .ok (.iconst 0, 1) := by decide +kernel
theorem dX7_copyPlay_122 : decode cX7_copyPlay 122 = .ok (.aload_n 0, 1) := by decide +kernel
theorem dX7_copyPlay_123 : decode cX7_copyPlay 123 = .ok (.getfield 36, 3) := by decide +kernel
theorem dX7_copyPlay_126 : decode cX7_copyPlay 126 = .ok (.iconst 0, 1) := by decide +kernel
theorem dX7_copyPlay_127 : decode cX7_copyPlay 127 = .ok (.iconst 4, 1) := by decide +kernel
theorem dX7_copyPlay_128 : decode cX7_copyPlay 128 = .ok (.invokestatic 48, 3) := by decide +kernel
theorem dX7_copyPlay_131 : decode cX7_copyPlay 131 = .ok (.aload_n 1, 1) := by decide +kernel
theorem dX7_copyPlay_132 : decode cX7_copyPlay 132 = .ok (.getfield 39, 3) := by decide +kernel
theorem dX7_copyPlay_135 : decode cX7_copyPlay 135 = .ok (.iconst 0, 1) := by decide +kernel
theorem dX7_copyPlay_136 : decode cX7_copyPlay 136 = .ok (.aload_n 0, 1) := by decide +kernel
theorem dX7_copyPlay_137 : decode cX7_copyPlay 137 = .ok (.getfield 39, 3) := by decide +kernel
theorem dX7_copyPlay_140 : decode cX7_copyPlay 140 = .ok (.iconst 0, 1) := by decide +kernel
theorem dX7_copyPlay_141 : decode cX7_copyPlay 141 = .ok (.iconst 4, 1) := by decide +kernel
theorem dX7_copyPlay_142 : decode cX7_copyPlay 142 = .ok (.invokestatic 48, 3) := by decide +kernel
theorem dX7_copyPlay_145 : decode cX7_copyPlay 145 = .ok (.aload_n 0, 1) := by decide +kernel
theorem dX7_copyPlay_146 : decode cX7_copyPlay 146 = .ok (.aload_n 1, 1) := by decide +kernel
theorem dX7_copyPlay_147 : decode cX7_copyPlay 147 = .ok (.getfield 69, 3) := by decide +kernel
theorem dX7_copyPlay_150 : decode cX7_copyPlay 150 = .ok (.putfield 69, 3) := by decide +kernel
theorem dX7_copyPlay_153 : decode cX7_copyPlay 153 = .ok (.return_, 1) := by decide +kernel
theorem dX7_copyAll_0 : decode cX7_copyAll 0 = .ok (.aload_n 0, 1) := by decide +kernel
theorem dX7_copyAll_1 : decode cX7_copyAll 1 = .ok (.aload_n 1, 1) := by decide +kernel
theorem dX7_copyAll_2 : decode cX7_copyAll 2 = .ok (.invokevirtual 72, 3) := by decide +kernel
theorem dX7_copyAll_5 : decode cX7_copyAll 5 = .ok (.aload_n 1, 1) := by decide +kernel
theorem dX7_copyAll_6 : decode cX7_copyAll 6 = .ok (.getfield 42, 3) := by decide +kernel
theorem dX7_copyAll_9 : decode cX7_copyAll 9 = .ok (.iconst 0, 1) := by decide +kernel
theorem dX7_copyAll_10 : decode cX7_copyAll 10 = .ok (.aload_n 0, 1) := by decide +kernel
theorem dX7_copyAll_11 : decode cX7_copyAll 11 = .ok (.getfield 42, 3) := by decide +kernel
theorem dX7_copyAll_14 : decode cX7_copyAll 14 = .ok (.iconst 0, 1) := by decide +kernel
theorem dX7_copyAll_15 : decode cX7_copyAll 15 = .ok (.aload_n 0, 1) := by decide +kernel
theorem dX7_copyAll_16 : decode cX7_copyAll 16 = .ok (.getfield 42, 3) := by decide +kernel
theorem dX7_copyAll_19 : decode cX7_copyAll 19 = .ok (.arraylength, 1) := by decide +kernel
theorem dX7_copyAll_20 : decode cX7_copyAll 20 = .ok (.invokestatic 48, 3) := by decide +kernel
theorem dX7_copyAll_23 : decode cX7_copyAll 23 = .ok (.return_, 1) := by decide +kernel
theorem dX8_init_0 : decode cX8_init 0 = .ok (.aload_n 0, 1) := by decide +kernel
theorem dX8_init_1 : decode cX8_init 1 = .ok (.invokespecial 3, 3) := by decide +kernel
theorem dX8_init_4 : decode cX8_init 4 = .ok (.aload_n 0, 1) := by decide +kernel
theorem dX8_init_5 : decode cX8_init 5 = .ok (.bipush 10, 2) := by decide +kernel
theorem dX8_init_7 : decode cX8_init 7 = .ok (.newarray .int, 2) := by decide +kernel
theorem dX8_init_9 : decode cX8_init 9 = .ok (.putfield 9, 3) := by decide +kernel
theorem dX8_init_12 : decode cX8_init 12 = .ok (.aload_n 0, 1) := by decide +kernel
theorem dX8_init_13 : decode cX8_init 13 = .ok (.bipush 10, 2) := by decide +kernel
theorem dX8_init_15 : decode cX8_init 15 = .ok (.newarray .int, 2) := by decide +kernel
theorem dX8_init_17 : decode cX8_init 17 = .ok (.putfield 15, 3) := by decide +kernel
theorem dX8_init_20 : decode cX8_init 20 = .ok (.aload_n 0, 1) := by decide +kernel
theorem dX8_init_21 : decode cX8_init 21 = .ok (.bipush 10, 2) := by decide +kernel
theorem dX8_init_23 : decode cX8_init 23 = .ok (.newarray .int, 2) := by decide +kernel
theorem dX8_init_25 : decode cX8_init 25 = .ok (.putfield 18, 3) := by decide +kernel
theorem dX8_init_28 : decode cX8_init 28 = .ok (.aload_n 0, 1) := by decide +kernel
theorem dX8_init_29 : decode cX8_init 29 = .ok (.bipush 10, 2) := by decide +kernel
theorem dX8_init_31 : decode cX8_init 31 = .ok (.newarray .int, 2) := by decide +kernel
theorem dX8_init_33 : decode cX8_init 33 = .ok (.putfield 21, 3) := by decide +kernel
theorem dX8_init_36 : decode cX8_init 36 = .ok (.aload_n 0, 1) := by decide +kernel
theorem dX8_init_37 : decode cX8_init 37 = .ok (.bipush 10, 2) := by decide +kernel
theorem dX8_init_39 : decode cX8_init 39 = .ok (.newarray .int, 2) := by decide +kernel
theorem dX8_init_41 : decode cX8_init 41 = .ok (.putfield 24, 3) := by decide +kernel
theorem dX8_init_44 : decode cX8_init 44 = .ok (.aload_n 0, 1) := by decide +kernel
theorem dX8_init_45 : decode cX8_init 45 = .ok (.bipush 10, 2) := by decide +kernel
theorem dX8_init_47 : decode cX8_init 47 = .ok (.newarray .int, 2) := by decide +kernel
theorem dX8_init_49 : decode cX8_init 49 = .ok (.putfield 27, 3) := by decide +kernel
theorem dX8_init_52 : decode cX8_init 52 = .ok (.aload_n 0, 1) := by decide +kernel
theorem dX8_init_53 : decode cX8_init 53 = .ok (.iconst 4, 1) := by decide +kernel
theorem dX8_init_54 : decode cX8_init 54 = .ok (.newarray .int, 2) := by decide +kernel
theorem dX8_init_56 : decode cX8_init 56 = .ok (.putfield 30, 3) := by decide +kernel
theorem dX8_init_59 : decode cX8_init 59 = .ok (.aload_n 0, 1) := by decide +kernel
theorem dX8_init_60 : decode cX8_init 60 = .ok (.iconst 4, 1) := by decide +kernel
theorem dX8_init_61 : decode cX8_init 61 = .ok (.newarray .int, 2) := by decide +kernel
theorem dX8_init_63 : decode cX8_init 63 = .ok (.putfield 33, 3) := by decide +kernel
theorem dX8_init_66 : decode cX8_init 66 = .ok (.aload_n 0, 1) := by decide +kernel
theorem dX8_init_67 : decode cX8_init 67 = .ok (.iconst 4, 1) := by decide +kernel
theorem dX8_init_68 : decode cX8_init 68 = .ok (.newarray .int, 2) := by decide +kernel
theorem dX8_init_70 : decode cX8_init 70 = .ok (.putfield 36, 3) := by decide +kernel
theorem dX8_init_73 : decode cX8_init 73 = .ok (.aload_n 0, 1) := by decide +kernel
theorem dX8_init_74 : decode cX8_init 74 = .ok (.iconst 4, 1) := by decide +kernel
theorem dX8_init_75 : decode cX8_init 75 = .ok (.newarray .int, 2) := by decide +kernel
theorem dX8_init_77 : decode cX8_init 77 = .ok (.putfield 39, 3) := by decide +kernel
theorem dX8_init_80 : decode cX8_init 80 = .ok (.aload_n 0, 1) := by decide +kernel
theorem dX8_init_81 : decode cX8_init 81 = .ok (.iconst 4, 1) := by decide +kernel
theorem dX8_init_82 : decode cX8_init 82 = .ok (.newarray .int, 2) := by decide +kernel
theorem dX8_init_84 : decode cX8_init 84 = .ok (.putfield 42, 3) := by decide +kernel
theorem dX8_init_87 : decode cX8_init 87 = .ok (.aload_n 0, 1) := by decide +kernel
theorem dX8_init_88 : decode cX8_init 88 = .ok (.iconst 4, 1) := by decide +kernel
theorem dX8_init_89 : decode cX8_init 89 = .ok (.newarray .int, 2) := by decide +kernel
theorem dX8_init_91 : decode cX8_init 91 = .ok (.putfield 45, 3) := by decide +kernel
theorem dX8_init_94 : decode cX8_init 94 = .ok (.aload_n 0, 1) := by decide +kernel
theorem dX8_init_95 : decode cX8_init 95 = .ok (.new 48, 3) := by decide +kernel
theorem dX8_init_98 : decode cX8_init 98 = .ok (.dup, 1) := by decide +kernel
theorem dX8_init_99 : decode cX8_init 99 = .ok (.invokespecial 50, 3) := by decide +kernel
theorem dX8_init_102 : decode cX8_init 102 = .ok (.putfield 51, 3) := by decide +kernel
theorem dX8_init_105 : decode cX8_init 105 = .ok (.aload_n 0, 1) := by decide +kernel
theorem dX8_init_106 : decode cX8_init 106 = .ok (.invokevirtual 55, 3) := by decide +kernel
theorem dX8_init_109 : decode cX8_init 109 = .ok (.return_, 1) := by decide +kernel
theorem dX8_clear_0 : decode cX8_clear 0 = .ok (.aload_n 0, 1) := by decide +kernel
theorem dX8_clear_1 : decode cX8_clear 1 = .ok (.iconst 0, 1) := by decide +kernel
theorem dX8_clear_2 : decode cX8_clear 2 = .ok (.putfield 58, 3) := by decide +kernel
theorem dX8_clear_5 : decode cX8_clear 5 = .ok (.aload_n 0, 1) := by decide +kernel
theorem dX8_clear_6 : decode cX8_clear 6 = .ok (.iconst 0, 1) := by decide +kernel
theorem dX8_clear_7 : decode cX8_clear 7 = .ok (.putfield 62, 3) := by decide +kernel
theorem dX8_clear_10 : decode cX8_clear 10 = .ok (.aload_n 0, 1) := by decide +kernel
theorem dX8_clear_11 : decode cX8_clear 11 = .ok (.iconst 0, 1) := by decide +kernel
theorem dX8_clear_12 : decode cX8_clear 12 = .ok (.putfield 65, 3) := by decide +kernel
theorem dX8_clear_15 : decode cX8_clear 15 = .ok (.aload_n 0, 1) := by decide +kernel
theorem dX8_clear_16 : decode cX8_clear 16 = .ok (.bipush 10, 2) := by decide +kernel
theorem dX8_clear_18 : decode cX8_clear 18 = .ok (.putfield 68, 3) := by decide +kernel
theorem dX8_clear_21 : decode cX8_clear 21 = .ok (.aload_n 0, 1) := by decide +kernel
theorem dX8_clear_22 : decode cX8_clear 22 = .ok (.iconst 0, 1) := by decide +kernel
theorem dX8_clear_23 : decode cX8_clear 23 = .ok (.putfield 71, 3) := by decide +kernel
theorem dX8_clear_26 : decode cX8_clear 26 = .ok (.aload_n 0, 1) := by decide +kernel
theorem dX8_clear_27 : decode cX8_clear 27 = .ok (.iconst 0, 1) := by decide +kernel
theorem dX8_clear_28 : decode cX8_clear 28 = .ok (.putfield 74, 3) := by decide +kernel
theorem dX8_clear_31 : decode cX8_clear 31 = .ok (.aload_n 0, 1) := by decide +kernel
theorem dX8_clear_32 : decode cX8_clear 32 = .ok (.iconst 0, 1) := by decide +kernel
theorem dX8_clear_33 : decode cX8_clear 33 = .ok (.putfield 77, 3) := by decide +kernel
theorem dX8_clear_36 : decode cX8_clear 36 = .ok (.aload_n 0, 1) := by decide +kernel
theorem dX8_clear_37 : decode cX8_clear 37 = .ok (.getfield 51, 3) := by decide +kernel
theorem dX8_clear_40 : decode cX8_clear 40 = .ok (.invokevirtual 80, 3) := by decide +kernel
theorem dX8_clear_43 : decode cX8_clear 43 = .ok (.return_, 1) := by decide +kernel
theorem dX8_isCell_0 : decode cX8_isCell 0 = .ok (.iload_n 1, 1) := by decide +kernel
theorem dX8_isCell_1 : decode cX8_isCell 1 = .ok (.ifCond .lt 27, 3) := by decide +kernel
theorem dX8_isCell_4 : decode cX8_isCell 4 = .ok (.iload_n 1, 1) := by decide +kernel
theorem dX8_isCell_5 : decode cX8_isCell 5 = .ok (.aload_n 0, 1) := by decide +kernel
theorem dX8_isCell_6 : decode cX8_isCell 6 = .ok (.getfield 58, 3) := by decide +kernel
theorem dX8_isCell_9 : decode cX8_isCell 9 = .ok (.if_icmp .ge 19, 3) := by decide +kernel
theorem dX8_isCell_12 : decode cX8_isCell 12 = .ok (.iload_n 2, 1) := by decide +kernel
theorem dX8_isCell_13 : decode cX8_isCell 13 = .ok (.ifCond .lt 15, 3) := by decide +kernel
theorem dX8_isCell_16 : decode cX8_isCell 16 = .ok (.iload_n 2, 1) := by decide +kernel
theorem dX8_isCell_17 : decode cX8_isCell 17 = .ok (.aload_n 0, 1) := by decide +kernel
theorem dX8_isCell_18 : decode cX8_isCell 18 = .ok (.getfield 62, 3) := by decide +kernel
theorem dX8_isCell_21 : decode cX8_isCell 21 = .ok (.if_icmp .ge 7, 3) := by decide +kernel
theorem dX8_isCell_24 : decode cX8_isCell 24 = .ok (.iconst 1, 1) := by decide +kernel
theorem dX8_isCell_25 : decode cX8_isCell 25 = .ok (.goto 4, 3) := by decide +kernel
theorem dX8_isCell_28 : decode cX8_isCell 28 = .ok (.iconst 0, 1) := by decide +kernel
theorem dX8_isCell_29 : decode cX8_isCell 29 = .ok (.ireturn, 1) := by decide +kernel
theorem dX8_isRim_0 : decode cX8_isRim 0 = .ok (.iload_n 1, 1) := by decide +kernel
theorem dX8_isRim_1 : decode cX8_isRim 1 = .ok (.ifCond .eq 27, 3) := by decide +kernel
theorem dX8_isRim_4 : decode cX8_isRim 4 = .ok (.iload_n 1, 1) := by decide +kernel
theorem dX8_isRim_5 : decode cX8_isRim 5 = .ok (.aload_n 0, 1) := by decide +kernel
theorem dX8_isRim_6 : decode cX8_isRim 6 = .ok (.getfield 58, 3) := by decide +kernel
theorem dX8_isRim_9 : decode cX8_isRim 9 = .ok (.iconst 1, 1) := by decide +kernel
theorem dX8_isRim_10 : decode cX8_isRim 10 = .ok (.isub, 1) := by decide +kernel
theorem dX8_isRim_11 : decode cX8_isRim 11 = .ok (.if_icmp .eq 17, 3) := by decide +kernel
theorem dX8_isRim_14 : decode cX8_isRim 14 = .ok (.iload_n 2, 1) := by decide +kernel
theorem dX8_isRim_15 : decode cX8_isRim 15 = .ok (.ifCond .eq 13, 3) := by decide +kernel
theorem dX8_isRim_18 : decode cX8_isRim 18 = .ok (.iload_n 2, 1) := by decide +kernel
theorem dX8_isRim_19 : decode cX8_isRim 19 = .ok (.aload_n 0, 1) := by decide +kernel
theorem dX8_isRim_20 : decode cX8_isRim 20 = .ok (.getfield 62, 3) := by decide +kernel
theorem dX8_isRim_23 : decode cX8_isRim 23 = .ok (.iconst 1, 1) := by decide +kernel
theorem dX8_isRim_24 : decode cX8_isRim 24 = .ok (.isub, 1) := by decide +kernel
theorem dX8_isRim_25 : decode cX8_isRim 25 = .ok (.if_icmp .ne 7, 3) := by decide +kernel
theorem dX8_isRim_28 : decode cX8_isRim 28 = .ok (.iconst 1, 1) := by decide +kernel
theorem dX8_isRim_29 : decode cX8_isRim 29 = .ok (.goto 4, 3) := by decide +kernel
theorem dX8_isRim_32 : decode cX8_isRim 32 = .ok (.iconst 0, 1) := by decide +kernel
theorem dX8_isRim_33 : decode cX8_isRim 33 = .ok (.ireturn, 1) := by decide +kernel
theorem dX8_ruleOf_0 : decode cX8_ruleOf 0 = .ok (.aload_n 0, 1) := by decide +kernel
theorem dX8_ruleOf_1 : decode cX8_ruleOf 1 = .ok (.getfield 77, 3) := by decide +kernel
theorem dX8_ruleOf_4 : decode cX8_ruleOf 4 = .ok (.ifCond .ne 7, 3) := by decide +kernel
theorem dX8_ruleOf_7 : decode cX8_ruleOf 7 = .ok (.iconst (-1), 1) := by decide +kernel
theorem dX8_ruleOf_8 : decode cX8_ruleOf 8 = .ok (.goto 9, 3) := by decide +kernel
theorem dX8_ruleOf_11 : decode cX8_ruleOf 11 = .ok (.aload_n 0, 1) := by decide +kernel
theorem dX8_ruleOf_12 : decode cX8_ruleOf 12 = .ok (.getfield 45, 3) := by decide +kernel
theorem dX8_ruleOf_15 : decode cX8_ruleOf 15 = .ok (.iload_n 1, 1) := by decide +kernel
theorem dX8_ruleOf_16 : decode cX8_ruleOf 16 = .ok (.iaload, 1) := by decide +kernel
theorem dX8_ruleOf_17 : decode cX8_ruleOf 17 = .ok (.ireturn, 1) := by decide +kernel
theorem dX9_init_0 : decode cX9_init 0 = .ok (.aload_n 0, 1) := by decide +kernel
theorem dX9_init_1 : decode cX9_init 1 = .ok (.invokespecial 3, 3) := by decide +kernel
theorem dX9_init_4 : decode cX9_init 4 = .ok (.aload_n 0, 1) := by decide +kernel
theorem dX9_init_5 : decode cX9_init 5 = .ok (.new 9, 3) := by decide +kernel
theorem dX9_init_8 : decode cX9_init 8 = .ok (.dup, 1) := by decide +kernel
theorem dX9_init_9 : decode cX9_init 9 = .ok (.invokespecial 11, 3) := by decide +kernel
theorem dX9_init_12 : decode cX9_init 12 = .ok (.putfield 12, 3) := by decide +kernel
theorem dX9_init_15 : decode cX9_init 15 = .ok (.aload_n 0, 1) := by decide +kernel
theorem dX9_init_16 : decode cX9_init 16 = .ok (.bipush 36, 2) := by decide +kernel
theorem dX9_init_18 : decode cX9_init 18 = .ok (.newarray .int, 2) := by decide +kernel
theorem dX9_init_20 : decode cX9_init 20 = .ok (.putfield 18, 3) := by decide +kernel
theorem dX9_init_23 : decode cX9_init 23 = .ok (.aload_n 0, 1) := by decide +kernel
theorem dX9_init_24 : decode cX9_init 24 = .ok (.iconst 4, 1) := by decide +kernel
theorem dX9_init_25 : decode cX9_init 25 = .ok (.newarray .int, 2) := by decide +kernel
theorem dX9_init_27 : decode cX9_init 27 = .ok (.putfield 22, 3) := by decide +kernel
theorem dX9_init_30 : decode cX9_init 30 = .ok (.aload_n 0, 1) := by decide +kernel
theorem dX9_init_31 : decode cX9_init 31 = .ok (.bipush 10, 2) := by decide +kernel
theorem dX9_init_33 : decode cX9_init 33 = .ok (.newarray .int, 2) := by decide +kernel
theorem dX9_init_35 : decode cX9_init 35 = .ok (.putfield 25, 3) := by decide +kernel
theorem dX9_init_38 : decode cX9_init 38 = .ok (.aload_n 0, 1) := by decide +kernel
theorem dX9_init_39 : decode cX9_init 39 = .ok (.iconst 4, 1) := by decide +kernel
theorem dX9_init_40 : decode cX9_init 40 = .ok (.newarray .int, 2) := by decide +kernel
theorem dX9_init_42 : decode cX9_init 42 = .ok (.putfield 28, 3) := by decide +kernel
theorem dX9_init_45 : decode cX9_init 45 = .ok (.aload_n 0, 1) := by decide +kernel
theorem dX9_init_46 : decode cX9_init 46 = .ok (.aload_n 1, 1) := by decide +kernel
theorem dX9_init_47 : decode cX9_init 47 = .ok (.putfield 31, 3) := by decide +kernel
theorem dX9_init_50 : decode cX9_init 50 = .ok (.return_, 1) := by decide +kernel
theorem dX9_lead_0 : decode cX9_lead 0 = .ok (.aload_n 0, 1) := by decide +kernel
theorem dX9_lead_1 : decode cX9_lead 1 = .ok (.getfield 12, 3) := by decide +kernel
theorem dX9_lead_4 : decode cX9_lead 4 = .ok (.aload_n 1, 1) := by decide +kernel
theorem dX9_lead_5 : decode cX9_lead 5 = .ok (.invokevirtual 35, 3) := by decide +kernel
theorem dX9_lead_8 : decode cX9_lead 8 = .ok (.iconst 0, 1) := by decide +kernel
theorem dX9_lead_9 : decode cX9_lead 9 = .ok (.istore 4, 2) := by decide +kernel
theorem dX9_lead_11 : decode cX9_lead 11 = .ok (.iconst 0, 1) := by decide +kernel
theorem dX9_lead_12 : decode cX9_lead 12 = .ok (.istore 5, 2) := by decide +kernel
theorem dX9_lead_14 : decode cX9_lead 14 = .ok (.iload 5, 2) := by decide +kernel
theorem dX9_lead_16 : decode cX9_lead 16 = .ok (.bipush 10, 2) := by decide +kernel
theorem dX9_lead_18 : decode cX9_lead 18 = .ok (.if_icmp .ge 45, 3) := by decide +kernel
theorem dX9_lead_21 : decode cX9_lead 21 = .ok (.iload 4, 2) := by decide +kernel
theorem dX9_lead_23 : decode cX9_lead 23 = .ok (.aload_n 0, 1) := by decide +kernel
theorem dX9_lead_24 : decode cX9_lead 24 = .ok (.getfield 31, 3) := by decide +kernel
theorem dX9_lead_27 : decode cX9_lead 27 = .ok (.aload_n 0, 1) := by decide +kernel
theorem dX9_lead_28 : decode cX9_lead 28 = .ok (.getfield 12, 3) := by decide +kernel
theorem dX9_lead_31 : decode cX9_lead 31 = .ok (.iconst 0, 1) := by decide +kernel
theorem dX9_lead_32 : decode cX9_lead 32 = .ok (.iload_n 2, 1) := by decide +kernel
theorem dX9_lead_33 : decode cX9_lead 33 = .ok (.invokevirtual 39, 3) := by decide +kernel
theorem dX9_lead_36 : decode cX9_lead 36 = .ok (.iadd, 1) := by decide +kernel
theorem dX9_lead_37 : decode cX9_lead 37 = .ok (.istore 4, 2) := by decide +kernel
theorem dX9_lead_39 : decode cX9_lead 39 = .ok (.iload 4, 2) := by decide +kernel
theorem dX9_lead_41 : decode cX9_lead 41 = .ok (.aload_n 0, 1) := by decide +kernel
theorem dX9_lead_42 : decode cX9_lead 42 = .ok (.getfield 31, 3) := by decide +kernel
theorem dX9_lead_45 : decode cX9_lead 45 = .ok (.aload_n 0, 1) := by decide +kernel
theorem dX9_lead_46 : decode cX9_lead 46 = .ok (.getfield 12, 3) := by decide +kernel
theorem dX9_lead_49 : decode cX9_lead 49 = .ok (.iconst 1, 1) := by decide +kernel
theorem dX9_lead_50 : decode cX9_lead 50 = .ok (.iload_n 3, 1) := by decide +kernel
theorem dX9_lead_51 : decode cX9_lead 51 = .ok (.invokevirtual 39, 3) := by decide +kernel
theorem dX9_lead_54 : decode cX9_lead 54 = .ok (.isub, 1) := by decide +kernel
theorem dX9_lead_55 : decode cX9_lead 55 = .ok (.istore 4, 2) := by decide +kernel
theorem dX9_lead_57 : decode cX9_lead 57 = .ok (.iinc 5 1, 3) := by decide +kernel
theorem dX9_lead_60 : decode cX9_lead 60 = .ok (.goto (-46), 3) := by decide +kernel
theorem dX9_lead_63 : decode cX9_lead 63 = .ok (.iload 4, 2) := by decide +kernel
theorem dX9_lead_65 : decode cX9_lead 65 = .ok (.ireturn, 1) := by decide +kernel
theorem dX9_playAllPairs_0 : decode cX9_playAllPairs 0 = .ok (.iconst 0, 1) := by decide +kernel
theorem dX9_playAllPairs_1 : decode cX9_playAllPairs 1 = .ok (.istore_n 2, 1) := by decide +kernel
theorem dX9_playAllPairs_2 : decode cX9_playAllPairs 2 = .ok (.iload_n 2, 1) := by decide +kernel
theorem dX9_playAllPairs_3 : decode cX9_playAllPairs 3 = .ok (.aload_n 0, 1) := by decide +kernel
theorem dX9_playAllPairs_4 : decode cX9_playAllPairs 4 = .ok (.getfield 31, 3) := by decide +kernel
theorem dX9_playAllPairs_7 : decode cX9_playAllPairs 7 = .ok (.getfield 45, 3) := by decide +kernel
theorem dX9_playAllPairs_10 : decode cX9_playAllPairs 10 = .ok (.getfield 49, 3) := by decide +kernel
theorem dX9_playAllPairs_13 : decode cX9_playAllPairs 13 = .ok (.if_icmp .ge 49, 3) := by decide +kernel
theorem dX9_playAllPairs_16 : decode cX9_playAllPairs 16 = .ok (.iconst 0, 1) := by decide +kernel
theorem dX9_playAllPairs_17 : decode cX9_playAllPairs 17 = .ok (.istore_n 3, 1) := by decide +kernel
theorem dX9_playAllPairs_18 : decode cX9_playAllPairs 18 = .ok (.iload_n 3, 1) := by decide +kernel
theorem dX9_playAllPairs_19 : decode cX9_playAllPairs 19 = .ok (.aload_n 0, 1) := by decide +kernel
theorem dX9_playAllPairs_20 : decode cX9_playAllPairs 20 = .ok (.getfield 31, 3) := by decide +kernel
theorem dX9_playAllPairs_23 : decode cX9_playAllPairs 23 = .ok (.getfield 45, 3) := by decide +kernel
theorem dX9_playAllPairs_26 : decode cX9_playAllPairs 26 = .ok (.getfield 49, 3) := by decide +kernel
theorem dX9_playAllPairs_29 : decode cX9_playAllPairs 29 = .ok (.if_icmp .ge 27, 3) := by decide +kernel
theorem dX9_playAllPairs_32 : decode cX9_playAllPairs 32 = .ok (.aload_n 0, 1) := by decide +kernel
theorem dX9_playAllPairs_33 : decode cX9_playAllPairs 33 = .ok (.getfield 18, 3) := by decide +kernel
theorem dX9_playAllPairs_36 : decode cX9_playAllPairs 36 = .ok (.iload_n 2, 1) := by decide +kernel
theorem dX9_playAllPairs_37 : decode cX9_playAllPairs 37 = .ok (.bipush 6, 2) := by decide +kernel
theorem dX9_playAllPairs_39 : decode cX9_playAllPairs 39 = .ok (.imul, 1) := by decide +kernel
theorem dX9_playAllPairs_40 : decode cX9_playAllPairs 40 = .ok (.iload_n 3, 1) := by decide +kernel
theorem dX9_playAllPairs_41 : decode cX9_playAllPairs 41 = .ok (.iadd, 1) := by decide +kernel
theorem dX9_playAllPairs_42 : decode cX9_playAllPairs 42 = .ok (.aload_n 0, 1) := by decide +kernel
theorem dX9_playAllPairs_43 : decode cX9_playAllPairs 43 = .ok (.aload_n 1, 1) := by decide +kernel
theorem dX9_playAllPairs_44 : decode cX9_playAllPairs 44 = .ok (.iload_n 2, 1) := by decide +kernel
theorem dX9_playAllPairs_45 : decode cX9_playAllPairs 45 = .ok (.iload_n 3, 1) := by decide +kernel
theorem dX9_playAllPairs_46 : decode cX9_playAllPairs 46 = .ok (.invokevirtual 55, 3) := by decide +kernel
theorem dX9_playAllPairs_49 : decode cX9_playAllPairs 49 = .ok (.iastore, 1) := by decide +kernel
theorem dX9_playAllPairs_50 : decode cX9_playAllPairs 50 = .ok (.iinc 3 1, 3) := by decide +kernel
theorem dX9_playAllPairs_53 : decode cX9_playAllPairs 53 = .ok (.goto (-35), 3) := by decide +kernel
theorem dX9_playAllPairs_56 : decode cX9_playAllPairs 56 = .ok (.iinc 2 1, 3) := by decide +kernel
theorem dX9_playAllPairs_59 : decode cX9_playAllPairs 59 = .ok (.goto (-57), 3) := by decide +kernel
theorem dX9_playAllPairs_62 : decode cX9_playAllPairs 62 = .ok (.return_, 1) := by decide +kernel
theorem dX9_isAtRest_0 : decode cX9_isAtRest 0 = .ok (.aload_n 0, 1) := by decide +kernel
theorem dX9_isAtRest_1 : decode cX9_isAtRest 1 = .ok (.getfield 18, 3) := by decide +kernel
theorem dX9_isAtRest_4 : decode cX9_isAtRest 4 = .ok (.iload_n 1, 1) := by decide +kernel
theorem dX9_isAtRest_5 : decode cX9_isAtRest 5 = .ok (.bipush 6, 2) := by decide +kernel
theorem dX9_isAtRest_7 : decode cX9_isAtRest 7 = .ok (.imul, 1) := by decide +kernel
theorem dX9_isAtRest_8 : decode cX9_isAtRest 8 = .ok (.iload_n 2, 1) := by decide +kernel
theorem dX9_isAtRest_9 : decode cX9_isAtRest 9 = .ok (.iadd, 1) := by decide +kernel
theorem dX9_isAtRest_10 : decode cX9_isAtRest 10 = .ok (.iaload, 1) := by decide +kernel
theorem dX9_isAtRest_11 : decode cX9_isAtRest 11 = .ok (.istore_n 3, 1) := by decide +kernel
theorem dX9_isAtRest_12 : decode cX9_isAtRest 12 = .ok (.iconst 0, 1) := by decide +kernel
theorem dX9_isAtRest_13 : decode cX9_isAtRest 13 = .ok (.istore 4, 2) := by decide +kernel
theorem dX9_isAtRest_15 : decode cX9_isAtRest 15 = .ok (.iload 4, 2) := by decide +kernel
theorem dX9_isAtRest_17 : decode cX9_isAtRest 17 = .ok (.aload_n 0, 1) := by decide +kernel
theorem dX9_isAtRest_18 : decode cX9_isAtRest 18 = .ok (.getfield 31, 3) := by decide +kernel
theorem dX9_isAtRest_21 : decode cX9_isAtRest 21 = .ok (.getfield 45, 3) := by decide +kernel
theorem dX9_isAtRest_24 : decode cX9_isAtRest 24 = .ok (.getfield 49, 3) := by decide +kernel
theorem dX9_isAtRest_27 : decode cX9_isAtRest 27 = .ok (.if_icmp .ge 43, 3) := by decide +kernel
theorem dX9_isAtRest_30 : decode cX9_isAtRest 30 = .ok (.aload_n 0, 1) := by decide +kernel
theorem dX9_isAtRest_31 : decode cX9_isAtRest 31 = .ok (.getfield 18, 3) := by decide +kernel
theorem dX9_isAtRest_34 : decode cX9_isAtRest 34 = .ok (.iload 4, 2) := by decide +kernel
theorem dX9_isAtRest_36 : decode cX9_isAtRest 36 = .ok (.bipush 6, 2) := by decide +kernel
theorem dX9_isAtRest_38 : decode cX9_isAtRest 38 = .ok (.imul, 1) := by decide +kernel
theorem dX9_isAtRest_39 : decode cX9_isAtRest 39 = .ok (.iload_n 2, 1) := by decide +kernel
theorem dX9_isAtRest_40 : decode cX9_isAtRest 40 = .ok (.iadd, 1) := by decide +kernel
theorem dX9_isAtRest_41 : decode cX9_isAtRest 41 = .ok (.iaload, 1) := by decide +kernel
theorem dX9_isAtRest_42 : decode cX9_isAtRest 42 = .ok (.iload_n 3, 1) := by decide +kernel
theorem dX9_isAtRest_43 : decode cX9_isAtRest 43 = .ok (.if_icmp .gt 19, 3) := by decide +kernel
theorem dX9_isAtRest_46 : decode cX9_isAtRest 46 = .ok (.aload_n 0, 1) := by decide +kernel
theorem dX9_isAtRest_47 : decode cX9_isAtRest 47 = .ok (.getfield 18, 3) := by decide +kernel
theorem dX9_isAtRest_50 : decode cX9_isAtRest 50 = .ok (.iload_n 1, 1) := by decide +kernel
theorem dX9_isAtRest_51 : decode cX9_isAtRest 51 = .ok (.bipush 6, 2) := by decide +kernel
theorem dX9_isAtRest_53 : decode cX9_isAtRest 53 = .ok (.imul, 1) := by decide +kernel
theorem dX9_isAtRest_54 : decode cX9_isAtRest 54 = .ok (.iload 4, 2) := by decide +kernel
theorem dX9_isAtRest_56 : decode cX9_isAtRest 56 = .ok (.iadd, 1) := by decide +kernel
theorem dX9_isAtRest_57 : decode cX9_isAtRest 57 = .ok (.iaload, 1) := by decide +kernel
theorem dX9_isAtRest_58 : decode cX9_isAtRest 58 = .ok (.iload_n 3, 1) := by decide +kernel
theorem dX9_isAtRest_59 : decode cX9_isAtRest 59 = .ok (.if_icmp .ge 5, 3) := by decide +kernel
theorem dX9_isAtRest_62 : decode cX9_isAtRest 62 = .ok (.iconst 0, 1) := by decide +kernel
theorem dX9_isAtRest_63 : decode cX9_isAtRest 63 = .ok (.ireturn, 1) := by decide +kernel
theorem dX9_isAtRest_64 : decode cX9_isAtRest 64 = .ok (.iinc 4 1, 3) := by decide +kernel
theorem dX9_isAtRest_67 : decode cX9_isAtRest 67 = .ok (.goto (-52), 3) := by decide +kernel
theorem dX9_isAtRest_70 : decode cX9_isAtRest 70 = .ok (.iconst 1, 1) := by decide +kernel
theorem dX9_isAtRest_71 : decode cX9_isAtRest 71 = .ok (.ireturn, 1) := by decide +kernel
theorem dX9_findSeat_0 : decode cX9_findSeat 0 = .ok (.aload_n 0, 1) := by decide +kernel
theorem dX9_findSeat_1 : decode cX9_findSeat 1 = .ok (.iconst (-1), 1) := by decide +kernel
theorem dX9_findSeat_2 : decode cX9_findSeat 2 = .ok (.putfield 58, 3) := by decide +kernel
theorem dX9_findSeat_5 : decode cX9_findSeat 5 = .ok (.iconst 0, 1) := by decide +kernel
theorem dX9_findSeat_6 : decode cX9_findSeat 6 = .ok (.istore 4, 2) := by decide +kernel
theorem dX9_findSeat_8 : decode cX9_findSeat 8 = .ok (.iload 4, 2) := by decide +kernel
theorem dX9_findSeat_10 : decode cX9_findSeat 10 = .ok (.aload_n 0, 1) := by decide +kernel
theorem dX9_findSeat_11 : decode cX9_findSeat 11 = .ok (.getfield 31, 3) := by decide +kernel
theorem dX9_findSeat_14 : decode cX9_findSeat 14 = .ok (.getfield 45, 3) := by decide +kernel
theorem dX9_findSeat_17 : decode cX9_findSeat 17 = .ok (.getfield 61, 3) := by decide +kernel
theorem dX9_findSeat_20 : decode cX9_findSeat 20 = .ok (.if_icmp .ge 94, 3) := by decide +kernel
theorem dX9_findSeat_23 : decode cX9_findSeat 23 = .ok (.iconst 0, 1) := by decide +kernel
theorem dX9_findSeat_24 : decode cX9_findSeat 24 = .ok (.istore 5, 2) := by decide +kernel
theorem dX9_findSeat_26 : decode cX9_findSeat 26 = .ok (.iload 5, 2) := by decide +kernel
theorem dX9_findSeat_28 : decode cX9_findSeat 28 = .ok (.aload_n 0, 1) := by decide +kernel
theorem dX9_findSeat_29 : decode cX9_findSeat 29 = .ok (.getfield 31, 3) := by decide +kernel
theorem dX9_findSeat_32 : decode cX9_findSeat 32 = .ok (.getfield 45, 3) := by decide +kernel
theorem dX9_findSeat_35 : decode cX9_findSeat 35 = .ok (.getfield 64, 3) := by decide +kernel
theorem dX9_findSeat_38 : decode cX9_findSeat 38 = .ok (.if_icmp .ge 70, 3) := by decide +kernel
theorem dX9_findSeat_41 : decode cX9_findSeat 41 = .ok (.aload_n 0, 1) := by decide +kernel
theorem dX9_findSeat_42 : decode cX9_findSeat 42 = .ok (.getfield 31, 3) := by decide +kernel
theorem dX9_findSeat_45 : decode cX9_findSeat 45 = .ok (.getfield 45, 3) := by decide +kernel
theorem dX9_findSeat_48 : decode cX9_findSeat 48 = .ok (.iload 5, 2) := by decide +kernel
theorem dX9_findSeat_50 : decode cX9_findSeat 50 = .ok (.iload 4, 2) := by decide +kernel
theorem dX9_findSeat_52 : decode cX9_findSeat 52 = .ok (.invokevirtual 67, 3) := by decide +kernel
theorem dX9_findSeat_55 : decode cX9_findSeat 55 = .ok (.ifCond .eq 17, 3) := by decide +kernel
theorem dX9_findSeat_58 : decode cX9_findSeat 58 = .ok (.aload_n 0, 1) := by decide +kernel
theorem dX9_findSeat_59 : decode cX9_findSeat 59 = .ok (.aload_n 1, 1) := by decide +kernel
theorem dX9_findSeat_60 : decode cX9_findSeat 60 = .ok (.iload_n 2, 1) := by decide +kernel
theorem dX9_findSeat_61 : decode cX9_findSeat 61 = .ok (.iload 5, 2) := by decide +kernel
theorem dX9_findSeat_63 : decode cX9_findSeat 63 = .ok (.iload 4, 2) := by decide +kernel
theorem dX9_findSeat_65 : decode cX9_findSeat 65 = .ok (.iload_n 3, 1) := by decide +kernel
theorem dX9_findSeat_66 : decode cX9_findSeat 66 = .ok (.invokevirtual 71, 3) := by decide +kernel
theorem dX9_findSeat_69 : decode cX9_findSeat 69 = .ok (.goto 4, 3) := by decide +kernel
theorem dX9_findSeat_72 : decode cX9_findSeat 72 = .ok (.iconst (-1), 1) := by decide +kernel
theorem dX9_findSeat_73 : decode cX9_findSeat 73 = .ok (.istore 6, 2) := by decide +kernel
theorem dX9_findSeat_75 : decode cX9_findSeat 75 = .ok (.iload 6, 2) := by decide +kernel
theorem dX9_findSeat_77 : decode cX9_findSeat 77 = .ok (.aload_n 0, 1) := by decide +kernel
theorem dX9_findSeat_78 : decode cX9_findSeat 78 = .ok (.getfield 58, 3) := by decide +kernel
theorem dX9_findSeat_81 : decode cX9_findSeat 81 = .ok (.if_icmp .le 21, 3) := by decide +kernel
theorem dX9_findSeat_84 : decode cX9_findSeat 84 = .ok (.aload_n 0, 1) := by decide +kernel
theorem dX9_findSeat_85 : decode cX9_findSeat 85 = .ok (.iload 6, 2) := by decide +kernel
theorem dX9_findSeat_87 : decode cX9_findSeat 87 = .ok (.putfield 58, 3) := by decide +kernel
theorem dX9_findSeat_90 : decode cX9_findSeat 90 = .ok (.aload_n 0, 1) := by decide +kernel
theorem dX9_findSeat_91 : decode cX9_findSeat 91 = .ok (.iload 5, 2) := by decide +kernel
theorem dX9_findSeat_93 : decode cX9_findSeat 93 = .ok (.putfield 75, 3) := by decide +kernel
theorem dX9_findSeat_96 : decode cX9_findSeat 96 = .ok (.aload_n 0, 1) := by decide +kernel
theorem dX9_findSeat_97 : decode cX9_findSeat 97 = .ok (.iload 4, 2) := by decide +kernel
theorem dX9_findSeat_99 : decode cX9_findSeat 99 = .ok (.putfield 78, 3) := by decide +kernel
theorem dX9_findSeat_102 : decode cX9_findSeat 102 = .ok (.iinc 5 1, 3) := by decide +kernel
theorem dX9_findSeat_105 : decode cX9_findSeat 105 = .ok (.goto (-79), 3) := by decide +kernel
theorem dX9_findSeat_108 : decode cX9_findSeat 108 = .ok (.iinc 4 1, 3) := by decide +kernel
theorem dX9_findSeat_111 : decode cX9_findSeat 111 = .ok (.goto (-103), 3) := by decide +kernel
theorem dX9_findSeat_114 : decode cX9_findSeat 114 = .ok (.return_, 1) := by decide +kernel
theorem dX9_getsFrom_0 : decode cX9_getsFrom 0 = .ok (.aload_n 0, 1) := by decide +kernel
theorem dX9_getsFrom_1 : decode cX9_getsFrom 1 = .ok (.getfield 12, 3) := by decide +kernel
theorem dX9_getsFrom_4 : decode cX9_getsFrom 4 = .ok (.aload_n 1, 1) := by decide +kernel
theorem dX9_getsFrom_5 : decode cX9_getsFrom 5 = .ok (.invokevirtual 35, 3) := by decide +kernel
theorem dX9_getsFrom_8 : decode cX9_getsFrom 8 = .ok (.aload_n 0, 1) := by decide +kernel
theorem dX9_getsFrom_9 : decode cX9_getsFrom 9 = .ok (.getfield 12, 3) := by decide +kernel
theorem dX9_getsFrom_12 : decode cX9_getsFrom 12 = .ok (.getfield 81, 3) := by decide +kernel
theorem dX9_getsFrom_15 : decode cX9_getsFrom 15 = .ok (.iload_n 2, 1) := by decide +kernel
theorem dX9_getsFrom_16 : decode cX9_getsFrom 16 = .ok (.iload_n 3, 1) := by decide +kernel
theorem dX9_getsFrom_17 : decode cX9_getsFrom 17 = .ok (.iastore, 1) := by decide +kernel
theorem dX9_getsFrom_18 : decode cX9_getsFrom 18 = .ok (.aload_n 0, 1) := by decide +kernel
theorem dX9_getsFrom_19 : decode cX9_getsFrom 19 = .ok (.getfield 12, 3) := by decide +kernel
theorem dX9_getsFrom_22 : decode cX9_getsFrom 22 = .ok (.getfield 84, 3) := by decide +kernel
theorem dX9_getsFrom_25 : decode cX9_getsFrom 25 = .ok (.iload_n 2, 1) := by decide +kernel
theorem dX9_getsFrom_26 : decode cX9_getsFrom 26 = .ok (.iload 4, 2) := by decide +kernel
theorem dX9_getsFrom_28 : decode cX9_getsFrom 28 = .ok (.iastore, 1) := by decide +kernel
theorem dX9_getsFrom_29 : decode cX9_getsFrom 29 = .ok (.iconst 0, 1) := by decide +kernel
theorem dX9_getsFrom_30 : decode cX9_getsFrom 30 = .ok (.istore 6, 2) := by decide +kernel
theorem dX9_getsFrom_32 : decode cX9_getsFrom 32 = .ok (.iconst 0, 1) := by decide +kernel
theorem dX9_getsFrom_33 : decode cX9_getsFrom 33 = .ok (.istore 7, 2) := by decide +kernel
theorem dX9_getsFrom_35 : decode cX9_getsFrom 35 = .ok (.iload 7, 2) := by decide +kernel
theorem dX9_getsFrom_37 : decode cX9_getsFrom 37 = .ok (.iload 5, 2) := by decide +kernel
theorem dX9_getsFrom_39 : decode cX9_getsFrom 39 = .ok (.if_icmp .ge 37, 3) := by decide +kernel
theorem dX9_getsFrom_42 : decode cX9_getsFrom 42 = .ok (.iload 6, 2) := by decide +kernel
theorem dX9_getsFrom_44 : decode cX9_getsFrom 44 = .ok (.aload_n 0, 1) := by decide +kernel
theorem dX9_getsFrom_45 : decode cX9_getsFrom 45 = .ok (.getfield 31, 3) := by decide +kernel
theorem dX9_getsFrom_48 : decode cX9_getsFrom 48 = .ok (.aload_n 0, 1) := by decide +kernel
theorem dX9_getsFrom_49 : decode cX9_getsFrom 49 = .ok (.getfield 12, 3) := by decide +kernel
theorem dX9_getsFrom_52 : decode cX9_getsFrom 52 = .ok (.iload_n 2, 1) := by decide +kernel
theorem dX9_getsFrom_53 : decode cX9_getsFrom 53 = .ok (.aload_n 0, 1) := by decide +kernel
theorem dX9_getsFrom_54 : decode cX9_getsFrom 54 = .ok (.getfield 31, 3) := by decide +kernel
theorem dX9_getsFrom_57 : decode cX9_getsFrom 57 = .ok (.getfield 45, 3) := by decide +kernel
theorem dX9_getsFrom_60 : decode cX9_getsFrom 60 = .ok (.iload_n 2, 1) := by decide +kernel
theorem dX9_getsFrom_61 : decode cX9_getsFrom 61 = .ok (.invokevirtual 87, 3) := by decide +kernel
theorem dX9_getsFrom_64 : decode cX9_getsFrom 64 = .ok (.invokevirtual 39, 3) := by decide +kernel
theorem dX9_getsFrom_67 : decode cX9_getsFrom 67 = .ok (.iadd, 1) := by decide +kernel
theorem dX9_getsFrom_68 : decode cX9_getsFrom 68 = .ok (.istore 6, 2) := by decide +kernel
theorem dX9_getsFrom_70 : decode cX9_getsFrom 70 = .ok (.iinc 7 1, 3) := by decide +kernel
theorem dX9_getsFrom_73 : decode cX9_getsFrom 73 = .ok (.goto (-38), 3) := by decide +kernel
theorem dX9_getsFrom_76 : decode cX9_getsFrom 76 = .ok (.iload 6, 2) := by decide +kernel
theorem dX9_getsFrom_78 : decode cX9_getsFrom 78 = .ok (.ireturn, 1) := by decide +kernel
theorem dX9_findOrder_0 : decode cX9_findOrder 0 = .ok (.aload_n 0, 1) := by decide +kernel
theorem dX9_findOrder_1 : decode cX9_findOrder 1 = .ok (.getfield 31, 3) := by decide +kernel
theorem dX9_findOrder_4 : decode cX9_findOrder 4 = .ok (.getfield 45, 3) := by decide +kernel
theorem dX9_findOrder_7 : decode cX9_findOrder 7 = .ok (.getfield 91, 3) := by decide +kernel
theorem dX9_findOrder_10 : decode cX9_findOrder 10 = .ok (.istore_n 3, 1) := by decide +kernel
theorem dX9_findOrder_11 : decode cX9_findOrder 11 = .ok (.iconst 1, 1) := by decide +kernel
theorem dX9_findOrder_12 : decode cX9_findOrder 12 = .ok (.istore 4, 2) := by decide +kernel
theorem dX9_findOrder_14 : decode cX9_findOrder 14 = .ok (.iconst 0, 1) := by decide +kernel
theorem dX9_findOrder_15 : decode cX9_findOrder 15 = .ok (.istore 5, 2) := by decide +kernel
theorem dX9_findOrder_17 : decode cX9_findOrder 17 = .ok (.iload 5, 2) := by decide +kernel
theorem dX9_findOrder_19 : decode cX9_findOrder 19 = .ok (.iload_n 3, 1) := by decide +kernel
theorem dX9_findOrder_20 : decode cX9_findOrder 20 = .ok (.if_icmp .ge 15, 3) := by decide +kernel
theorem dX9_findOrder_23 : decode cX9_findOrder 23 = .ok (.iload 4, 2) := by decide +kernel
theorem dX9_findOrder_25 : decode cX9_findOrder 25 = .ok (.iload_n 3, 1) := by decide +kernel
theorem dX9_findOrder_26 : decode cX9_findOrder 26 = .ok (.imul, 1) := by decide +kernel
theorem dX9_findOrder_27 : decode cX9_findOrder 27 = .ok (.istore 4, 2) := by decide +kernel
theorem dX9_findOrder_29 : decode cX9_findOrder 29 = .ok (.iinc 5 1, 3) := by decide +kernel
theorem dX9_findOrder_32 : decode cX9_findOrder 32 = .ok (.goto (-15), 3) := by decide +kernel
theorem dX9_findOrder_35 : decode cX9_findOrder 35 = .ok (.iconst (-1), 1) := by decide +kernel
theorem dX9_findOrder_36 : decode cX9_findOrder 36 = .ok (.istore 5, 2) := by decide +kernel
theorem dX9_findOrder_38 : decode cX9_findOrder 38 = .ok (.iconst 0, 1) := by decide +kernel
theorem dX9_findOrder_39 : decode cX9_findOrder 39 = .ok (.istore 6, 2) := by decide +kernel
theorem dX9_findOrder_41 : decode cX9_findOrder 41 = .ok (.iload 6, 2) := by decide +kernel
theorem dX9_findOrder_43 : decode cX9_findOrder 43 = .ok (.iload 4, 2) := by decide +kernel
theorem dX9_findOrder_45 : decode cX9_findOrder 45 = .ok (.if_icmp .ge 52, 3) := by decide +kernel
theorem dX9_findOrder_48 : decode cX9_findOrder 48 = .ok (.aload_n 0, 1) := by decide +kernel
theorem dX9_findOrder_49 : decode cX9_findOrder 49 = .ok (.iload 6, 2) := by decide +kernel
theorem dX9_findOrder_51 : decode cX9_findOrder 51 = .ok (.iload_n 3, 1) := by decide +kernel
theorem dX9_findOrder_52 : decode cX9_findOrder 52 = .ok (.invokevirtual 94, 3) := by decide +kernel
theorem dX9_findOrder_55 : decode cX9_findOrder 55 = .ok (.ifCond .eq 36, 3) := by decide +kernel
theorem dX9_findOrder_58 : decode cX9_findOrder 58 = .ok (.aload_n 0, 1) := by decide +kernel
theorem dX9_findOrder_59 : decode cX9_findOrder 59 = .ok (.aload_n 1, 1) := by decide +kernel
theorem dX9_findOrder_60 : decode cX9_findOrder 60 = .ok (.iload_n 2, 1) := by decide +kernel
theorem dX9_findOrder_61 : decode cX9_findOrder 61 = .ok (.invokevirtual 97, 3) := by decide +kernel
theorem dX9_findOrder_64 : decode cX9_findOrder 64 = .ok (.istore 7, 2) := by decide +kernel
theorem dX9_findOrder_66 : decode cX9_findOrder 66 = .ok (.iload 7, 2) := by decide +kernel
theorem dX9_findOrder_68 : decode cX9_findOrder 68 = .ok (.iload 5, 2) := by decide +kernel
theorem dX9_findOrder_70 : decode cX9_findOrder 70 = .ok (.if_icmp .le 21, 3) := by decide +kernel
theorem dX9_findOrder_73 : decode cX9_findOrder 73 = .ok (.iload 7, 2) := by decide +kernel
theorem dX9_findOrder_75 : decode cX9_findOrder 75 = .ok (.istore 5, 2) := by decide +kernel
theorem dX9_findOrder_77 : decode cX9_findOrder 77 = .ok (.aload_n 0, 1) := by decide +kernel
theorem dX9_findOrder_78 : decode cX9_findOrder 78 = .ok (.getfield 22, 3) := by decide +kernel
theorem dX9_findOrder_81 : decode cX9_findOrder 81 = .ok (.iconst 0, 1) := by decide +kernel
theorem dX9_findOrder_82 : decode cX9_findOrder 82 = .ok (.aload_n 0, 1) := by decide +kernel
theorem dX9_findOrder_83 : decode cX9_findOrder 83 = .ok (.getfield 28, 3) := by decide +kernel
theorem dX9_findOrder_86 : decode cX9_findOrder 86 = .ok (.iconst 0, 1) := by decide +kernel
theorem dX9_findOrder_87 : decode cX9_findOrder 87 = .ok (.iconst 4, 1) := by decide +kernel
theorem dX9_findOrder_88 : decode cX9_findOrder 88 = .ok (.invokestatic 101, 3) := by decide +kernel
theorem dX9_findOrder_91 : decode cX9_findOrder 91 = .ok (.iinc 6 1, 3) := by decide +kernel
theorem dX9_findOrder_94 : decode cX9_findOrder 94 = .ok (.goto (-53), 3) := by decide +kernel
theorem dX9_findOrder_97 : decode cX9_findOrder 97 = .ok (.iload 5, 2) := by decide +kernel
theorem dX9_findOrder_99 : decode cX9_findOrder 99 = .ok (.ireturn, 1) := by decide +kernel
theorem dX9_isOrder_0 : decode cX9_isOrder 0 = .ok (.iload_n 1, 1) := by decide +kernel
theorem dX9_isOrder_1 : decode cX9_isOrder 1 = .ok (.istore_n 3, 1) := by decide +kernel
theorem dX9_isOrder_2 : decode cX9_isOrder 2 = .ok (.iconst 0, 1) := by decide +kernel
theorem dX9_isOrder_3 : decode cX9_isOrder 3 = .ok (.istore 4, 2) := by decide +kernel
theorem dX9_isOrder_5 : decode cX9_isOrder 5 = .ok (.iload_n 2, 1) := by decide +kernel
theorem dX9_isOrder_6 : decode cX9_isOrder 6 = .ok (.iconst 1, 1) := by decide +kernel
theorem dX9_isOrder_7 : decode cX9_isOrder 7 = .ok (.isub, 1) := by decide +kernel
theorem dX9_isOrder_8 : decode cX9_isOrder 8 = .ok (.istore 5, 2) := by decide +kernel
theorem dX9_isOrder_10 : decode cX9_isOrder 10 = .ok (.iload 5, 2) := by decide +kernel
theorem dX9_isOrder_12 : decode cX9_isOrder 12 = .ok (.ifCond .lt 37, 3) := by decide +kernel
theorem dX9_isOrder_15 : decode cX9_isOrder 15 = .ok (.aload_n 0, 1) := by decide +kernel
theorem dX9_isOrder_16 : decode cX9_isOrder 16 = .ok (.getfield 22, 3) := by decide +kernel
theorem dX9_isOrder_19 : decode cX9_isOrder 19 = .ok (.iload 5, 2) := by decide +kernel
theorem dX9_isOrder_21 : decode cX9_isOrder 21 = .ok (.iload_n 3, 1) := by decide +kernel
theorem dX9_isOrder_22 : decode cX9_isOrder 22 = .ok (.iload_n 2, 1) := by decide +kernel
theorem dX9_isOrder_23 : decode cX9_isOrder 23 = .ok (.irem, 1) := by decide +kernel
theorem dX9_isOrder_24 : decode cX9_isOrder 24 = .ok (.iastore, 1) := by decide +kernel
theorem dX9_isOrder_25 : decode cX9_isOrder 25 = .ok (.iload 4, 2) := by decide +kernel
theorem dX9_isOrder_27 : decode cX9_isOrder 27 = .ok (.iconst 1, 1) := by decide +kernel
theorem dX9_isOrder_28 : decode cX9_isOrder 28 = .ok (.aload_n 0, 1) := by decide +kernel
theorem dX9_isOrder_29 : decode cX9_isOrder 29 = .ok (.getfield 22, 3) := by decide +kernel
theorem dX9_isOrder_32 : decode cX9_isOrder 32 = .ok (.iload 5, 2) := by decide +kernel
theorem dX9_isOrder_34 : decode cX9_isOrder 34 = .ok (.iaload, 1) := by decide +kernel
theorem dX9_isOrder_35 : decode cX9_isOrder 35 = .ok (.ishl, 1) := by decide +kernel
theorem dX9_isOrder_36 : decode cX9_isOrder 36 = .ok (.ior, 1) := by decide +kernel
theorem dX9_isOrder_37 : decode cX9_isOrder 37 = .ok (.istore 4, 2) := by decide +kernel
theorem dX9_isOrder_39 : decode cX9_isOrder 39 = .ok (.iload_n 3, 1) := by decide +kernel
theorem dX9_isOrder_40 : decode cX9_isOrder 40 = .ok (.iload_n 2, 1) := by decide +kernel
theorem dX9_isOrder_41 : decode cX9_isOrder 41 = .ok (.idiv, 1) := by decide +kernel
theorem dX9_isOrder_42 : decode cX9_isOrder 42 = .ok (.istore_n 3, 1) := by decide +kernel
theorem dX9_isOrder_43 : decode cX9_isOrder 43 = .ok (.iinc 5 (-1), 3) := by decide +kernel
theorem dX9_isOrder_46 : decode cX9_isOrder 46 = .ok (.goto (-36), 3) := by decide +kernel
theorem dX9_isOrder_49 : decode cX9_isOrder 49 = .ok (.iload 4, 2) := by decide +kernel
theorem dX9_isOrder_51 : decode cX9_isOrder 51 = .ok (.invokestatic 107, 3) := by decide +kernel
theorem dX9_isOrder_54 : decode cX9_isOrder 54 = .ok (.iload_n 2, 1) := by decide +kernel
theorem dX9_isOrder_55 : decode cX9_isOrder 55 = .ok (.if_icmp .ne 7, 3) := by decide +kernel
theorem dX9_isOrder_58 : decode cX9_isOrder 58 = .ok (.iconst 1, 1) := by decide +kernel
theorem dX9_isOrder_59 : decode cX9_isOrder 59 = .ok (.goto 4, 3) := by decide +kernel
theorem dX9_isOrder_62 : decode cX9_isOrder 62 = .ok (.iconst 0, 1) := by decide +kernel
theorem dX9_isOrder_63 : decode cX9_isOrder 63 = .ok (.ireturn, 1) := by decide +kernel
theorem dX9_gotInOrder_0 : decode cX9_gotInOrder 0 = .ok (.aload_n 0, 1) := by decide +kernel
theorem dX9_gotInOrder_1 : decode cX9_gotInOrder 1 = .ok (.getfield 12, 3) := by decide +kernel
theorem dX9_gotInOrder_4 : decode cX9_gotInOrder 4 = .ok (.aload_n 1, 1) := by decide +kernel
theorem dX9_gotInOrder_5 : decode cX9_gotInOrder 5 = .ok (.invokevirtual 35, 3) := by decide +kernel
theorem dX9_gotInOrder_8 : decode cX9_gotInOrder 8 = .ok (.iconst 0, 1) := by decide +kernel
theorem dX9_gotInOrder_9 : decode cX9_gotInOrder 9 = .ok (.istore_n 3, 1) := by decide +kernel
theorem dX9_gotInOrder_10 : decode cX9_gotInOrder 10 = .ok (.iconst 0, 1) := by decide +kernel
theorem dX9_gotInOrder_11 : decode cX9_gotInOrder 11 = .ok (.istore 4, 2) := by decide +kernel
theorem dX9_gotInOrder_13 : decode cX9_gotInOrder 13 = .ok (.iload 4, 2) := by decide +kernel
theorem dX9_gotInOrder_15 : decode cX9_gotInOrder 15 = .ok (.iload_n 2, 1) := by decide +kernel
theorem dX9_gotInOrder_16 : decode cX9_gotInOrder 16 = .ok (.if_icmp .ge 71, 3) := by decide +kernel
theorem dX9_gotInOrder_19 : decode cX9_gotInOrder 19 = .ok (.iconst 0, 1) := by decide +kernel
theorem dX9_gotInOrder_20 : decode cX9_gotInOrder 20 = .ok (.istore 5, 2) := by decide +kernel
theorem dX9_gotInOrder_22 : decode cX9_gotInOrder 22 = .ok (.iload 5, 2) := by decide +kernel
theorem dX9_gotInOrder_24 : decode cX9_gotInOrder 24 = .ok (.aload_n 0, 1) := by decide +kernel
theorem dX9_gotInOrder_25 : decode cX9_gotInOrder 25 = .ok (.getfield 31, 3) := by decide +kernel
theorem dX9_gotInOrder_28 : decode cX9_gotInOrder 28 = .ok (.getfield 45, 3) := by decide +kernel
theorem dX9_gotInOrder_31 : decode cX9_gotInOrder 31 = .ok (.getfield 91, 3) := by decide +kernel
theorem dX9_gotInOrder_34 : decode cX9_gotInOrder 34 = .ok (.if_icmp .ge 47, 3) := by decide +kernel
theorem dX9_gotInOrder_37 : decode cX9_gotInOrder 37 = .ok (.iload_n 3, 1) := by decide +kernel
theorem dX9_gotInOrder_38 : decode cX9_gotInOrder 38 = .ok (.aload_n 0, 1) := by decide +kernel
theorem dX9_gotInOrder_39 : decode cX9_gotInOrder 39 = .ok (.getfield 31, 3) := by decide +kernel
theorem dX9_gotInOrder_42 : decode cX9_gotInOrder 42 = .ok (.aload_n 0, 1) := by decide +kernel
theorem dX9_gotInOrder_43 : decode cX9_gotInOrder 43 = .ok (.getfield 12, 3) := by decide +kernel
theorem dX9_gotInOrder_46 : decode cX9_gotInOrder 46 = .ok (.aload_n 0, 1) := by decide +kernel
theorem dX9_gotInOrder_47 : decode cX9_gotInOrder 47 = .ok (.getfield 22, 3) := by decide +kernel
theorem dX9_gotInOrder_50 : decode cX9_gotInOrder 50 = .ok (.iload 5, 2) := by decide +kernel
theorem dX9_gotInOrder_52 : decode cX9_gotInOrder 52 = .ok (.iaload, 1) := by decide +kernel
theorem dX9_gotInOrder_53 : decode cX9_gotInOrder 53 = .ok (.aload_n 0, 1) := by decide +kernel
theorem dX9_gotInOrder_54 : decode cX9_gotInOrder 54 = .ok (.getfield 31, 3) := by decide +kernel
theorem dX9_gotInOrder_57 : decode cX9_gotInOrder 57 = .ok (.getfield 45, 3) := by decide +kernel
theorem dX9_gotInOrder_60 : decode cX9_gotInOrder 60 = .ok (.aload_n 0, 1) := by decide +kernel
theorem dX9_gotInOrder_61 : decode cX9_gotInOrder 61 = .ok (.getfield 22, 3) := by decide +kernel
theorem dX9_gotInOrder_64 : decode cX9_gotInOrder 64 = .ok (.iload 5, 2) := by decide +kernel
theorem dX9_gotInOrder_66 : decode cX9_gotInOrder 66 = .ok (.iaload, 1) := by decide +kernel
theorem dX9_gotInOrder_67 : decode cX9_gotInOrder 67 = .ok (.invokevirtual 87, 3) := by decide +kernel
theorem dX9_gotInOrder_70 : decode cX9_gotInOrder 70 = .ok (.invokevirtual 39, 3) := by decide +kernel
theorem dX9_gotInOrder_73 : decode cX9_gotInOrder 73 = .ok (.iadd, 1) := by decide +kernel
theorem dX9_gotInOrder_74 : decode cX9_gotInOrder 74 = .ok (.istore_n 3, 1) := by decide +kernel
theorem dX9_gotInOrder_75 : decode cX9_gotInOrder 75 = .ok (.iinc 5 1, 3) := by decide +kernel
theorem dX9_gotInOrder_78 : decode cX9_gotInOrder 78 = .ok (.goto (-56), 3) := by decide +kernel
theorem dX9_gotInOrder_81 : decode cX9_gotInOrder 81 = .ok (.iinc 4 1, 3) := by decide +kernel
theorem dX9_gotInOrder_84 : decode cX9_gotInOrder 84 = .ok (.goto (-71), 3) := by decide +kernel
theorem dX9_gotInOrder_87 : decode cX9_gotInOrder 87 = .ok (.iload_n 3, 1) := by decide +kernel
theorem dX9_gotInOrder_88 : decode cX9_gotInOrder 88 = .ok (.ireturn, 1) := by decide +kernel
theorem dX9_goneWith_0 : decode cX9_goneWith 0 = .ok (.aload_n 0, 1) := by decide +kernel
theorem dX9_goneWith_1 : decode cX9_goneWith 1 = .ok (.getfield 12, 3) := by decide +kernel
theorem dX9_goneWith_4 : decode cX9_goneWith 4 = .ok (.aload_n 1, 1) := by decide +kernel
theorem dX9_goneWith_5 : decode cX9_goneWith 5 = .ok (.invokevirtual 35, 3) := by decide +kernel
theorem dX9_goneWith_8 : decode cX9_goneWith 8 = .ok (.iconst 0, 1) := by decide +kernel
theorem dX9_goneWith_9 : decode cX9_goneWith 9 = .ok (.istore 4, 2) := by decide +kernel
theorem dX9_goneWith_11 : decode cX9_goneWith 11 = .ok (.iload 4, 2) := by decide +kernel
theorem dX9_goneWith_13 : decode cX9_goneWith 13 = .ok (.aload_n 0, 1) := by decide +kernel
theorem dX9_goneWith_14 : decode cX9_goneWith 14 = .ok (.getfield 31, 3) := by decide +kernel
theorem dX9_goneWith_17 : decode cX9_goneWith 17 = .ok (.getfield 45, 3) := by decide +kernel
theorem dX9_goneWith_20 : decode cX9_goneWith 20 = .ok (.getfield 112, 3) := by decide +kernel
theorem dX9_goneWith_23 : decode cX9_goneWith 23 = .ok (.if_icmp .ge 30, 3) := by decide +kernel
theorem dX9_goneWith_26 : decode cX9_goneWith 26 = .ok (.iload_n 2, 1) := by decide +kernel
theorem dX9_goneWith_27 : decode cX9_goneWith 27 = .ok (.iload 4, 2) := by decide +kernel
theorem dX9_goneWith_29 : decode cX9_goneWith 29 = .ok (.ishr, 1) := by decide +kernel
theorem dX9_goneWith_30 : decode cX9_goneWith 30 = .ok (.iconst 1, 1) := by decide +kernel
theorem dX9_goneWith_31 : decode cX9_goneWith 31 = .ok (.iand, 1) := by decide +kernel
theorem dX9_goneWith_32 : decode cX9_goneWith 32 = .ok (.ifCond .ne 15, 3) := by decide +kernel
theorem dX9_goneWith_35 : decode cX9_goneWith 35 = .ok (.aload_n 0, 1) := by decide +kernel
theorem dX9_goneWith_36 : decode cX9_goneWith 36 = .ok (.getfield 12, 3) := by decide +kernel
theorem dX9_goneWith_39 : decode cX9_goneWith 39 = .ok (.getfield 115, 3) := by decide +kernel
theorem dX9_goneWith_42 : decode cX9_goneWith 42 = .ok (.iload 4, 2) := by decide +kernel
theorem dX9_goneWith_44 : decode cX9_goneWith 44 = .ok (.bipush 9, 2) := by decide +kernel
theorem dX9_goneWith_46 : decode cX9_goneWith 46 = .ok (.iastore, 1) := by decide +kernel
theorem dX9_goneWith_47 : decode cX9_goneWith 47 = .ok (.iinc 4 1, 3) := by decide +kernel
theorem dX9_goneWith_50 : decode cX9_goneWith 50 = .ok (.goto (-39), 3) := by decide +kernel
theorem dX9_goneWith_53 : decode cX9_goneWith 53 = .ok (.iconst 0, 1) := by decide +kernel
theorem dX9_goneWith_54 : decode cX9_goneWith 54 = .ok (.istore 4, 2) := by decide +kernel
theorem dX9_goneWith_56 : decode cX9_goneWith 56 = .ok (.iload 4, 2) := by decide +kernel
theorem dX9_goneWith_58 : decode cX9_goneWith 58 = .ok (.iload_n 3, 1) := by decide +kernel
theorem dX9_goneWith_59 : decode cX9_goneWith 59 = .ok (.if_icmp .gt 44, 3) := by decide +kernel
theorem dX9_goneWith_62 : decode cX9_goneWith 62 = .ok (.aload_n 0, 1) := by decide +kernel
theorem dX9_goneWith_63 : decode cX9_goneWith 63 = .ok (.getfield 31, 3) := by decide +kernel
theorem dX9_goneWith_66 : decode cX9_goneWith 66 = .ok (.aload_n 0, 1) := by decide +kernel
theorem dX9_goneWith_67 : decode cX9_goneWith 67 = .ok (.getfield 12, 3) := by decide +kernel
theorem dX9_goneWith_70 : decode cX9_goneWith 70 = .ok (.invokevirtual 118, 3) := by decide +kernel
theorem dX9_goneWith_73 : decode cX9_goneWith 73 = .ok (.ifCond .eq 6, 3) := by decide +kernel
theorem dX9_goneWith_76 : decode cX9_goneWith 76 = .ok (.iload 4, 2) := by decide +kernel
theorem dX9_goneWith_78 : decode cX9_goneWith 78 = .ok (.ireturn, 1) := by decide +kernel
theorem dX9_goneWith_79 : decode cX9_goneWith 79 = .ok (.iload 4, 2) := by decide +kernel
theorem dX9_goneWith_81 : decode cX9_goneWith 81 = .ok (.iload_n 3, 1) := by decide +kernel
theorem dX9_goneWith_82 : decode cX9_goneWith 82 = .ok (.if_icmp .ge 15, 3) := by decide +kernel
theorem dX9_goneWith_85 : decode cX9_goneWith 85 = .ok (.aload_n 0, 1) := by decide +kernel
theorem dX9_goneWith_86 : decode cX9_goneWith 86 = .ok (.getfield 31, 3) := by decide +kernel
theorem dX9_goneWith_89 : decode cX9_goneWith 89 = .ok (.aload_n 0, 1) := by decide +kernel
theorem dX9_goneWith_90 : decode cX9_goneWith 90 = .ok (.getfield 12, 3) := by decide +kernel
theorem dX9_goneWith_93 : decode cX9_goneWith 93 = .ok (.invokevirtual 122, 3) := by decide +kernel
theorem dX9_goneWith_96 : decode cX9_goneWith 96 = .ok (.pop, 1) := by decide +kernel
theorem dX9_goneWith_97 : decode cX9_goneWith 97 = .ok (.iinc 4 1, 3) := by decide +kernel
theorem dX9_goneWith_100 : decode cX9_goneWith 100 = .ok (.goto (-44), 3) := by decide +kernel
theorem dX9_goneWith_103 : decode cX9_goneWith 103 = .ok (.iconst (-1), 1) := by decide +kernel
theorem dX9_goneWith_104 : decode cX9_goneWith 104 = .ok (.ireturn, 1) := by decide +kernel
theorem dX9_fillRoom_0 : decode cX9_fillRoom 0 = .ok (.iconst 0, 1) := by decide +kernel
theorem dX9_fillRoom_1 : decode cX9_fillRoom 1 = .ok (.istore 5, 2) := by decide +kernel
theorem dX9_fillRoom_3 : decode cX9_fillRoom 3 = .ok (.iload 5, 2) := by decide +kernel
theorem dX9_fillRoom_5 : decode cX9_fillRoom 5 = .ok (.aload_n 0, 1) := by decide +kernel
theorem dX9_fillRoom_6 : decode cX9_fillRoom 6 = .ok (.getfield 31, 3) := by decide +kernel
theorem dX9_fillRoom_9 : decode cX9_fillRoom 9 = .ok (.getfield 45, 3) := by decide +kernel
theorem dX9_fillRoom_12 : decode cX9_fillRoom 12 = .ok (.getfield 112, 3) := by decide +kernel
theorem dX9_fillRoom_15 : decode cX9_fillRoom 15 = .ok (.if_icmp .ge 47, 3) := by decide +kernel
theorem dX9_fillRoom_18 : decode cX9_fillRoom 18 = .ok (.aload_n 0, 1) := by decide +kernel
theorem dX9_fillRoom_19 : decode cX9_fillRoom 19 = .ok (.getfield 31, 3) := by decide +kernel
theorem dX9_fillRoom_22 : decode cX9_fillRoom 22 = .ok (.aload_n 1, 1) := by decide +kernel
theorem dX9_fillRoom_23 : decode cX9_fillRoom 23 = .ok (.iload_n 2, 1) := by decide +kernel
theorem dX9_fillRoom_24 : decode cX9_fillRoom 24 = .ok (.iload 5, 2) := by decide +kernel
theorem dX9_fillRoom_26 : decode cX9_fillRoom 26 = .ok (.iconst 0, 1) := by decide +kernel
theorem dX9_fillRoom_27 : decode cX9_fillRoom 27 = .ok (.invokevirtual 126, 3) := by decide +kernel
theorem dX9_fillRoom_30 : decode cX9_fillRoom 30 = .ok (.istore 6, 2) := by decide +kernel
theorem dX9_fillRoom_32 : decode cX9_fillRoom 32 = .ok (.aload_n 0, 1) := by decide +kernel
theorem dX9_fillRoom_33 : decode cX9_fillRoom 33 = .ok (.getfield 25, 3) := by decide +kernel
theorem dX9_fillRoom_36 : decode cX9_fillRoom 36 = .ok (.iload 5, 2) := by decide +kernel
theorem dX9_fillRoom_38 : decode cX9_fillRoom 38 = .ok (.iload 6, 2) := by decide +kernel
theorem dX9_fillRoom_40 : decode cX9_fillRoom 40 = .ok (.ifCond .ne 9, 3) := by decide +kernel
theorem dX9_fillRoom_43 : decode cX9_fillRoom 43 = .ok (.sipush 9999, 3) := by decide +kernel
theorem dX9_fillRoom_46 : decode cX9_fillRoom 46 = .ok (.goto 9, 3) := by decide +kernel
theorem dX9_fillRoom_49 : decode cX9_fillRoom 49 = .ok (.sipush 1000, 3) := by decide +kernel
theorem dX9_fillRoom_52 : decode cX9_fillRoom 52 = .ok (.iload 6, 2) := by decide +kernel
theorem dX9_fillRoom_54 : decode cX9_fillRoom 54 = .ok (.idiv, 1) := by decide +kernel
theorem dX9_fillRoom_55 : decode cX9_fillRoom 55 = .ok (.iastore, 1) := by decide +kernel
theorem dX9_fillRoom_56 : decode cX9_fillRoom 56 = .ok (.iinc 5 1, 3) := by decide +kernel
theorem dX9_fillRoom_59 : decode cX9_fillRoom 59 = .ok (.goto (-56), 3) := by decide +kernel
theorem dX9_fillRoom_62 : decode cX9_fillRoom 62 = .ok (.aload_n 0, 1) := by decide +kernel
theorem dX9_fillRoom_63 : decode cX9_fillRoom 63 = .ok (.iconst 0, 1) := by decide +kernel
theorem dX9_fillRoom_64 : decode cX9_fillRoom 64 = .ok (.putfield 130, 3) := by decide +kernel
theorem dX9_fillRoom_67 : decode cX9_fillRoom 67 = .ok (.aload_n 0, 1) := by decide +kernel
theorem dX9_fillRoom_68 : decode cX9_fillRoom 68 = .ok (.iconst 0, 1) := by decide +kernel
theorem dX9_fillRoom_69 : decode cX9_fillRoom 69 = .ok (.putfield 133, 3) := by decide +kernel
theorem dX9_fillRoom_72 : decode cX9_fillRoom 72 = .ok (.iconst 1, 1) := by decide +kernel
theorem dX9_fillRoom_73 : decode cX9_fillRoom 73 = .ok (.istore 5, 2) := by decide +kernel
theorem dX9_fillRoom_75 : decode cX9_fillRoom 75 = .ok (.iload 5, 2) := by decide +kernel
theorem dX9_fillRoom_77 : decode cX9_fillRoom 77 = .ok (.iload_n 3, 1) := by decide +kernel
theorem dX9_fillRoom_78 : decode cX9_fillRoom 78 = .ok (.if_icmp .gt 70, 3) := by decide +kernel
theorem dX9_fillRoom_81 : decode cX9_fillRoom 81 = .ok (.iload 5, 2) := by decide +kernel
theorem dX9_fillRoom_83 : decode cX9_fillRoom 83 = .ok (.iload_n 3, 1) := by decide +kernel
theorem dX9_fillRoom_84 : decode cX9_fillRoom 84 = .ok (.iconst (-1), 1) := by decide +kernel
theorem dX9_fillRoom_85 : decode cX9_fillRoom 85 = .ok (.ixor, 1) := by decide +kernel
theorem dX9_fillRoom_86 : decode cX9_fillRoom 86 = .ok (.iand, 1) := by decide +kernel
theorem dX9_fillRoom_87 : decode cX9_fillRoom 87 = .ok (.ifCond .ne 55, 3) := by decide +kernel
theorem dX9_fillRoom_90 : decode cX9_fillRoom 90 = .ok (.aload_n 0, 1) := by decide +kernel
theorem dX9_fillRoom_91 : decode cX9_fillRoom 91 = .ok (.aload_n 1, 1) := by decide +kernel
theorem dX9_fillRoom_92 : decode cX9_fillRoom 92 = .ok (.getfield 136, 3) := by decide +kernel
theorem dX9_fillRoom_95 : decode cX9_fillRoom 95 = .ok (.iload 5, 2) := by decide +kernel
theorem dX9_fillRoom_97 : decode cX9_fillRoom 97 = .ok (.invokevirtual 139, 3) := by decide +kernel
theorem dX9_fillRoom_100 : decode cX9_fillRoom 100 = .ok (.iload 4, 2) := by decide +kernel
theorem dX9_fillRoom_102 : decode cX9_fillRoom 102 = .ok (.if_icmp .gt 40, 3) := by decide +kernel
theorem dX9_fillRoom_105 : decode cX9_fillRoom 105 = .ok (.aload_n 0, 1) := by decide +kernel
theorem dX9_fillRoom_106 : decode cX9_fillRoom 106 = .ok (.aload_n 0, 1) := by decide +kernel
theorem dX9_fillRoom_107 : decode cX9_fillRoom 107 = .ok (.getfield 25, 3) := by decide +kernel
theorem dX9_fillRoom_110 : decode cX9_fillRoom 110 = .ok (.iload 5, 2) := by decide +kernel
theorem dX9_fillRoom_112 : decode cX9_fillRoom 112 = .ok (.invokevirtual 139, 3) := by decide +kernel
theorem dX9_fillRoom_115 : decode cX9_fillRoom 115 = .ok (.aload_n 0, 1) := by decide +kernel
theorem dX9_fillRoom_116 : decode cX9_fillRoom 116 = .ok (.getfield 133, 3) := by decide +kernel
theorem dX9_fillRoom_119 : decode cX9_fillRoom 119 = .ok (.if_icmp .le 23, 3) := by decide +kernel
theorem dX9_fillRoom_122 : decode cX9_fillRoom 122 = .ok (.aload_n 0, 1) := by decide +kernel
theorem dX9_fillRoom_123 : decode cX9_fillRoom 123 = .ok (.iload 5, 2) := by decide +kernel
theorem dX9_fillRoom_125 : decode cX9_fillRoom 125 = .ok (.putfield 130, 3) := by decide +kernel
theorem dX9_fillRoom_128 : decode cX9_fillRoom 128 = .ok (.aload_n 0, 1) := by decide +kernel
theorem dX9_fillRoom_129 : decode cX9_fillRoom 129 = .ok (.aload_n 0, 1) := by decide +kernel
theorem dX9_fillRoom_130 : decode cX9_fillRoom 130 = .ok (.aload_n 0, 1) := by decide +kernel
theorem dX9_fillRoom_131 : decode cX9_fillRoom 131 = .ok (.getfield 25, 3) := by decide +kernel
theorem dX9_fillRoom_134 : decode cX9_fillRoom 134 = .ok (.iload 5, 2) := by decide +kernel
theorem dX9_fillRoom_136 : decode cX9_fillRoom 136 = .ok (.invokevirtual 139, 3) := by decide +kernel
theorem dX9_fillRoom_139 : decode cX9_fillRoom 139 = .ok (.putfield 133, 3) := by decide +kernel
theorem dX9_fillRoom_142 : decode cX9_fillRoom 142 = .ok (.iinc 5 1, 3) := by decide +kernel
theorem dX9_fillRoom_145 : decode cX9_fillRoom 145 = .ok (.goto (-70), 3) := by decide +kernel
theorem dX9_fillRoom_148 : decode cX9_fillRoom 148 = .ok (.return_, 1) := by decide +kernel
theorem dX9_sumOf_0 : decode cX9_sumOf 0 = .ok (.iconst 0, 1) := by decide +kernel
theorem dX9_sumOf_1 : decode cX9_sumOf 1 = .ok (.istore_n 3, 1) := by decide +kernel
theorem dX9_sumOf_2 : decode cX9_sumOf 2 = .ok (.iconst 0, 1) := by decide +kernel
theorem dX9_sumOf_3 : decode cX9_sumOf 3 = .ok (.istore 4, 2) := by decide +kernel
theorem dX9_sumOf_5 : decode cX9_sumOf 5 = .ok (.iload 4, 2) := by decide +kernel
theorem dX9_sumOf_7 : decode cX9_sumOf 7 = .ok (.aload_n 0, 1) := by decide +kernel
theorem dX9_sumOf_8 : decode cX9_sumOf 8 = .ok (.getfield 31, 3) := by decide +kernel
theorem dX9_sumOf_11 : decode cX9_sumOf 11 = .ok (.getfield 45, 3) := by decide +kernel
theorem dX9_sumOf_14 : decode cX9_sumOf 14 = .ok (.getfield 112, 3) := by decide +kernel
theorem dX9_sumOf_17 : decode cX9_sumOf 17 = .ok (.if_icmp .ge 29, 3) := by decide +kernel
theorem dX9_sumOf_20 : decode cX9_sumOf 20 = .ok (.iload_n 3, 1) := by decide +kernel
theorem dX9_sumOf_21 : decode cX9_sumOf 21 = .ok (.iload_n 2, 1) := by decide +kernel
theorem dX9_sumOf_22 : decode cX9_sumOf 22 = .ok (.iload 4, 2) := by decide +kernel
theorem dX9_sumOf_24 : decode cX9_sumOf 24 = .ok (.ishr, 1) := by decide +kernel
theorem dX9_sumOf_25 : decode cX9_sumOf 25 = .ok (.iconst 1, 1) := by decide +kernel
theorem dX9_sumOf_26 : decode cX9_sumOf 26 = .ok (.iand, 1) := by decide +kernel
theorem dX9_sumOf_27 : decode cX9_sumOf 27 = .ok (.ifCond .ne 7, 3) := by decide +kernel
theorem dX9_sumOf_30 : decode cX9_sumOf 30 = .ok (.iconst 0, 1) := by decide +kernel
theorem dX9_sumOf_31 : decode cX9_sumOf 31 = .ok (.goto 7, 3) := by decide +kernel
theorem dX9_sumOf_34 : decode cX9_sumOf 34 = .ok (.aload_n 1, 1) := by decide +kernel
theorem dX9_sumOf_35 : decode cX9_sumOf 35 = .ok (.iload 4, 2) := by decide +kernel
theorem dX9_sumOf_37 : decode cX9_sumOf 37 = .ok (.iaload, 1) := by decide +kernel
theorem dX9_sumOf_38 : decode cX9_sumOf 38 = .ok (.iadd, 1) := by decide +kernel
theorem dX9_sumOf_39 : decode cX9_sumOf 39 = .ok (.istore_n 3, 1) := by decide +kernel
theorem dX9_sumOf_40 : decode cX9_sumOf 40 = .ok (.iinc 4 1, 3) := by decide +kernel
theorem dX9_sumOf_43 : decode cX9_sumOf 43 = .ok (.goto (-38), 3) := by decide +kernel
theorem dX9_sumOf_46 : decode cX9_sumOf 46 = .ok (.iload_n 3, 1) := by decide +kernel
theorem dX9_sumOf_47 : decode cX9_sumOf 47 = .ok (.ireturn, 1) := by decide +kernel
theorem dX9_wouldTake_0 : decode cX9_wouldTake 0 = .ok (.aload_n 0, 1) := by decide +kernel
theorem dX9_wouldTake_1 : decode cX9_wouldTake 1 = .ok (.getfield 12, 3) := by decide +kernel
theorem dX9_wouldTake_4 : decode cX9_wouldTake 4 = .ok (.aload_n 0, 1) := by decide +kernel
theorem dX9_wouldTake_5 : decode cX9_wouldTake 5 = .ok (.getfield 31, 3) := by decide +kernel
theorem dX9_wouldTake_8 : decode cX9_wouldTake 8 = .ok (.getfield 45, 3) := by decide +kernel
theorem dX9_wouldTake_11 : decode cX9_wouldTake 11 = .ok (.invokevirtual 143, 3) := by decide +kernel
theorem dX9_wouldTake_14 : decode cX9_wouldTake 14 = .ok (.iconst (-1), 1) := by decide +kernel
theorem dX9_wouldTake_15 : decode cX9_wouldTake 15 = .ok (.istore 5, 2) := by decide +kernel
theorem dX9_wouldTake_17 : decode cX9_wouldTake 17 = .ok (.iconst 0, 1) := by decide +kernel
theorem dX9_wouldTake_18 : decode cX9_wouldTake 18 = .ok (.istore 6, 2) := by decide +kernel
theorem dX9_wouldTake_20 : decode cX9_wouldTake 20 = .ok (.iconst 0, 1) := by decide +kernel
theorem dX9_wouldTake_21 : decode cX9_wouldTake 21 = .ok (.istore 7, 2) := by decide +kernel
theorem dX9_wouldTake_23 : decode cX9_wouldTake 23 = .ok (.iload 7, 2) := by decide +kernel
theorem dX9_wouldTake_25 : decode cX9_wouldTake 25 = .ok (.aload_n 0, 1) := by decide +kernel
theorem dX9_wouldTake_26 : decode cX9_wouldTake 26 = .ok (.getfield 31, 3) := by decide +kernel
theorem dX9_wouldTake_29 : decode cX9_wouldTake 29 = .ok (.getfield 45, 3) := by decide +kernel
theorem dX9_wouldTake_32 : decode cX9_wouldTake 32 = .ok (.getfield 112, 3) := by decide +kernel
theorem dX9_wouldTake_35 : decode cX9_wouldTake 35 = .ok (.if_icmp .ge 57, 3) := by decide +kernel
theorem dX9_wouldTake_38 : decode cX9_wouldTake 38 = .ok (.iload_n 3, 1) := by decide +kernel
theorem dX9_wouldTake_39 : decode cX9_wouldTake 39 = .ok (.iload 7, 2) := by decide +kernel
theorem dX9_wouldTake_41 : decode cX9_wouldTake 41 = .ok (.ishr, 1) := by decide +kernel
theorem dX9_wouldTake_42 : decode cX9_wouldTake 42 = .ok (.iconst 1, 1) := by decide +kernel
theorem dX9_wouldTake_43 : decode cX9_wouldTake 43 = .ok (.iand, 1) := by decide +kernel
theorem dX9_wouldTake_44 : decode cX9_wouldTake 44 = .ok (.iconst 1, 1) := by decide +kernel
theorem dX9_wouldTake_45 : decode cX9_wouldTake 45 = .ok (.if_icmp .ne 41, 3) := by decide +kernel
theorem dX9_wouldTake_48 : decode cX9_wouldTake 48 = .ok (.aload_n 0, 1) := by decide +kernel
theorem dX9_wouldTake_49 : decode cX9_wouldTake 49 = .ok (.getfield 31, 3) := by decide +kernel
theorem dX9_wouldTake_52 : decode cX9_wouldTake 52 = .ok (.aload_n 0, 1) := by decide +kernel
theorem dX9_wouldTake_53 : decode cX9_wouldTake 53 = .ok (.getfield 12, 3) := by decide +kernel
theorem dX9_wouldTake_56 : decode cX9_wouldTake 56 = .ok (.iload_n 2, 1) := by decide +kernel
theorem dX9_wouldTake_57 : decode cX9_wouldTake 57 = .ok (.iload 7, 2) := by decide +kernel
theorem dX9_wouldTake_59 : decode cX9_wouldTake 59 = .ok (.iload_n 1, 1) := by decide +kernel
theorem dX9_wouldTake_60 : decode cX9_wouldTake 60 = .ok (.invokevirtual 147, 3) := by decide +kernel
theorem dX9_wouldTake_63 : decode cX9_wouldTake 63 = .ok (.istore 8, 2) := by decide +kernel
theorem dX9_wouldTake_65 : decode cX9_wouldTake 65 = .ok (.iload 5, 2) := by decide +kernel
theorem dX9_wouldTake_67 : decode cX9_wouldTake 67 = .ok (.iconst (-1), 1) := by decide +kernel
theorem dX9_wouldTake_68 : decode cX9_wouldTake 68 = .ok (.if_icmp .eq 10, 3) := by decide +kernel
theorem dX9_wouldTake_71 : decode cX9_wouldTake 71 = .ok (.iload 8, 2) := by decide +kernel
theorem dX9_wouldTake_73 : decode cX9_wouldTake 73 = .ok (.iload 6, 2) := by decide +kernel
theorem dX9_wouldTake_75 : decode cX9_wouldTake 75 = .ok (.if_icmp .le 11, 3) := by decide +kernel
theorem dX9_wouldTake_78 : decode cX9_wouldTake 78 = .ok (.iload 7, 2) := by decide +kernel
theorem dX9_wouldTake_80 : decode cX9_wouldTake 80 = .ok (.istore 5, 2) := by decide +kernel
theorem dX9_wouldTake_82 : decode cX9_wouldTake 82 = .ok (.iload 8, 2) := by decide +kernel
theorem dX9_wouldTake_84 : decode cX9_wouldTake 84 = .ok (.istore 6, 2) := by decide +kernel
theorem dX9_wouldTake_86 : decode cX9_wouldTake 86 = .ok (.iinc 7 1, 3) := by decide +kernel
theorem dX9_wouldTake_89 : decode cX9_wouldTake 89 = .ok (.goto (-66), 3) := by decide +kernel
theorem dX9_wouldTake_92 : decode cX9_wouldTake 92 = .ok (.iload 5, 2) := by decide +kernel
theorem dX9_wouldTake_94 : decode cX9_wouldTake 94 = .ok (.iload 4, 2) := by decide +kernel
theorem dX9_wouldTake_96 : decode cX9_wouldTake 96 = .ok (.if_icmp .ne 7, 3) := by decide +kernel
theorem dX9_wouldTake_99 : decode cX9_wouldTake 99 = .ok (.iconst 1, 1) := by decide +kernel
theorem dX9_wouldTake_100 : decode cX9_wouldTake 100 = .ok (.goto 4, 3) := by decide +kernel
theorem dX9_wouldTake_103 : decode cX9_wouldTake 103 = .ok (.iconst 0, 1) := by decide +kernel
theorem dX9_wouldTake_104 : decode cX9_wouldTake 104 = .ok (.ireturn, 1) := by decide +kernel
theorem dJ6_bitCount_0f7a4_0 : decode cJ6_bitCount_0f7a4 0 = .ok (.iload_n 0, 1) := by decide +kernel
theorem dJ6_bitCount_0f7a4_1 : decode cJ6_bitCount_0f7a4 1 = .ok (.iload_n 0, 1) := by decide +kernel
theorem dJ6_bitCount_0f7a4_2 : decode cJ6_bitCount_0f7a4 2 = .ok (.iconst 1, 1) := by decide +kernel
theorem dJ6_bitCount_0f7a4_3 : decode cJ6_bitCount_0f7a4 3 = .ok (.iushr, 1) := by decide +kernel
theorem dJ6_bitCount_0f7a4_4 : decode cJ6_bitCount_0f7a4 4 = .ok (.ldc_w 265, 3) := by decide +kernel
theorem dJ6_bitCount_0f7a4_7 : decode cJ6_bitCount_0f7a4 7 = .ok (.iand, 1) := by decide +kernel
theorem dJ6_bitCount_0f7a4_8 : decode cJ6_bitCount_0f7a4 8 = .ok (.isub, 1) := by decide +kernel
theorem dJ6_bitCount_0f7a4_9 : decode cJ6_bitCount_0f7a4 9 = .ok (.istore_n 0, 1) := by decide +kernel
theorem dJ6_bitCount_0f7a4_10 : decode cJ6_bitCount_0f7a4 10 = .ok (.iload_n 0, 1) := by decide +kernel
theorem dJ6_bitCount_0f7a4_11 : decode cJ6_bitCount_0f7a4 11 = .ok (.ldc_w 266, 3) := by decide +kernel
theorem dJ6_bitCount_0f7a4_14 : decode cJ6_bitCount_0f7a4 14 = .ok (.iand, 1) := by decide +kernel
theorem dJ6_bitCount_0f7a4_15 : decode cJ6_bitCount_0f7a4 15 = .ok (.iload_n 0, 1) := by decide +kernel
theorem dJ6_bitCount_0f7a4_16 : decode cJ6_bitCount_0f7a4 16 = .ok (.iconst 2, 1) := by decide +kernel
theorem dJ6_bitCount_0f7a4_17 : decode cJ6_bitCount_0f7a4 17 = .ok (.iushr, 1) := by decide +kernel
theorem dJ6_bitCount_0f7a4_18 : decode cJ6_bitCount_0f7a4 18 = .ok (.ldc_w 266, 3) := by decide +kernel
theorem dJ6_bitCount_0f7a4_21 : decode cJ6_bitCount_0f7a4 21 = .ok (.iand, 1) := by decide +kernel
theorem dJ6_bitCount_0f7a4_22 : decode cJ6_bitCount_0f7a4 22 = .ok (.iadd, 1) := by decide +kernel
theorem dJ6_bitCount_0f7a4_23 : decode cJ6_bitCount_0f7a4 23 = .ok (.istore_n 0, 1) := by decide +kernel
theorem dJ6_bitCount_0f7a4_24 : decode cJ6_bitCount_0f7a4 24 = .ok (.iload_n 0, 1) := by decide +kernel
theorem dJ6_bitCount_0f7a4_25 : decode cJ6_bitCount_0f7a4 25 = .ok (.iload_n 0, 1) := by decide +kernel
theorem dJ6_bitCount_0f7a4_26 : decode cJ6_bitCount_0f7a4 26 = .ok (.iconst 4, 1) := by decide +kernel
theorem dJ6_bitCount_0f7a4_27 : decode cJ6_bitCount_0f7a4 27 = .ok (.iushr, 1) := by decide +kernel
theorem dJ6_bitCount_0f7a4_28 : decode cJ6_bitCount_0f7a4 28 = .ok (.iadd, 1) := by decide +kernel
theorem dJ6_bitCount_0f7a4_29 : decode cJ6_bitCount_0f7a4 29 = .ok (.ldc_w 267, 3) := by decide +kernel
theorem dJ6_bitCount_0f7a4_32 : decode cJ6_bitCount_0f7a4 32 = .ok (.iand, 1) := by decide +kernel
theorem dJ6_bitCount_0f7a4_33 : decode cJ6_bitCount_0f7a4 33 = .ok (.istore_n 0, 1) := by decide +kernel
theorem dJ6_bitCount_0f7a4_34 : decode cJ6_bitCount_0f7a4 34 = .ok (.iload_n 0, 1) := by decide +kernel
theorem dJ6_bitCount_0f7a4_35 : decode cJ6_bitCount_0f7a4 35 = .ok (.iload_n 0, 1) := by decide +kernel
theorem dJ6_bitCount_0f7a4_36 : decode cJ6_bitCount_0f7a4 36 = .ok (.bipush 8, 2) := by decide +kernel
theorem dJ6_bitCount_0f7a4_38 : decode cJ6_bitCount_0f7a4 38 = .ok (.iushr, 1) := by decide +kernel
theorem dJ6_bitCount_0f7a4_39 : decode cJ6_bitCount_0f7a4 39 = .ok (.iadd, 1) := by decide +kernel
theorem dJ6_bitCount_0f7a4_40 : decode cJ6_bitCount_0f7a4 40 = .ok (.istore_n 0, 1) := by decide +kernel
theorem dJ6_bitCount_0f7a4_41 : decode cJ6_bitCount_0f7a4 41 = .ok (.iload_n 0, 1) := by decide +kernel
theorem dJ6_bitCount_0f7a4_42 : decode cJ6_bitCount_0f7a4 42 = .ok (.iload_n 0, 1) := by decide +kernel
theorem dJ6_bitCount_0f7a4_43 : decode cJ6_bitCount_0f7a4 43 = .ok (.bipush 16, 2) := by decide +kernel
theorem dJ6_bitCount_0f7a4_45 : decode cJ6_bitCount_0f7a4 45 = .ok (.iushr, 1) := by decide +kernel
theorem dJ6_bitCount_0f7a4_46 : decode cJ6_bitCount_0f7a4 46 = .ok (.iadd, 1) := by decide +kernel
theorem dJ6_bitCount_0f7a4_47 : decode cJ6_bitCount_0f7a4 47 = .ok (.istore_n 0, 1) := by decide +kernel
theorem dJ6_bitCount_0f7a4_48 : decode cJ6_bitCount_0f7a4 48 = .ok (.iload_n 0, 1) := by decide +kernel
theorem dJ6_bitCount_0f7a4_49 : decode cJ6_bitCount_0f7a4 49 = .ok (.bipush 63, 2) := by decide +kernel
theorem dJ6_bitCount_0f7a4_51 : decode cJ6_bitCount_0f7a4 51 = .ok (.iand, 1) := by decide +kernel
theorem dJ6_bitCount_0f7a4_52 : decode cJ6_bitCount_0f7a4 52 = .ok (.ireturn, 1) := by decide +kernel
theorem dJ6_signum_0f7a4_0 : decode cJ6_signum_0f7a4 0 = .ok (.iload_n 0, 1) := by decide +kernel
theorem dJ6_signum_0f7a4_1 : decode cJ6_signum_0f7a4 1 = .ok (.bipush 31, 2) := by decide +kernel
theorem dJ6_signum_0f7a4_3 : decode cJ6_signum_0f7a4 3 = .ok (.ishr, 1) := by decide +kernel
theorem dJ6_signum_0f7a4_4 : decode cJ6_signum_0f7a4 4 = .ok (.iload_n 0, 1) := by decide +kernel
theorem dJ6_signum_0f7a4_5 : decode cJ6_signum_0f7a4 5 = .ok (.ineg, 1) := by decide +kernel
theorem dJ6_signum_0f7a4_6 : decode cJ6_signum_0f7a4 6 = .ok (.bipush 31, 2) := by decide +kernel
theorem dJ6_signum_0f7a4_8 : decode cJ6_signum_0f7a4 8 = .ok (.iushr, 1) := by decide +kernel
theorem dJ6_signum_0f7a4_9 : decode cJ6_signum_0f7a4 9 = .ok (.ior, 1) := by decide +kernel
theorem dJ6_signum_0f7a4_10 : decode cJ6_signum_0f7a4 10 = .ok (.ireturn, 1) := by decide +kernel
theorem dJ9_floorMod_7cf53_0 : decode cJ9_floorMod_7cf53 0 = .ok (.iload_n 0, 1) := by decide +kernel
theorem dJ9_floorMod_7cf53_1 : decode cJ9_floorMod_7cf53 1 = .ok (.iload_n 1, 1) := by decide +kernel
theorem dJ9_floorMod_7cf53_2 : decode cJ9_floorMod_7cf53 2 = .ok (.irem, 1) := by decide +kernel
theorem dJ9_floorMod_7cf53_3 : decode cJ9_floorMod_7cf53 3 = .ok (.istore_n 2, 1) := by decide +kernel
theorem dJ9_floorMod_7cf53_4 : decode cJ9_floorMod_7cf53 4 = .ok (.iload_n 0, 1) := by decide +kernel
theorem dJ9_floorMod_7cf53_5 : decode cJ9_floorMod_7cf53 5 = .ok (.iload_n 1, 1) := by decide +kernel
theorem dJ9_floorMod_7cf53_6 : decode cJ9_floorMod_7cf53 6 = .ok (.ixor, 1) := by decide +kernel
theorem dJ9_floorMod_7cf53_7 : decode cJ9_floorMod_7cf53 7 = .ok (.ifCond .ge 11, 3) := by decide +kernel
theorem dJ9_floorMod_7cf53_10 : decode cJ9_floorMod_7cf53 10 = .ok (.iload_n 2, 1) := by decide +kernel
theorem dJ9_floorMod_7cf53_11 : decode cJ9_floorMod_7cf53 11 = .ok (.ifCond .eq 7, 3) := by decide +kernel
theorem dJ9_floorMod_7cf53_14 : decode cJ9_floorMod_7cf53 14 = .ok (.iload_n 2, 1) := by decide +kernel
theorem dJ9_floorMod_7cf53_15 : decode cJ9_floorMod_7cf53 15 = .ok (.iload_n 1, 1) := by decide +kernel
theorem dJ9_floorMod_7cf53_16 : decode cJ9_floorMod_7cf53 16 = .ok (.iadd, 1) := by decide +kernel
theorem dJ9_floorMod_7cf53_17 : decode cJ9_floorMod_7cf53 17 = .ok (.ireturn, 1) := by decide +kernel
theorem dJ9_floorMod_7cf53_18 : decode cJ9_floorMod_7cf53 18 = .ok (.iload_n 2, 1) := by decide +kernel
theorem dJ9_floorMod_7cf53_19 : decode cJ9_floorMod_7cf53 19 = .ok (.ireturn, 1) := by decide +kernel
theorem dJ9_abs_0f7a4_0 : decode cJ9_abs_0f7a4 0 = .ok (.iload_n 0, 1) := by decide +kernel
theorem dJ9_abs_0f7a4_1 : decode cJ9_abs_0f7a4 1 = .ok (.ifCond .ge 8, 3) := by decide +kernel
theorem dJ9_abs_0f7a4_4 : decode cJ9_abs_0f7a4 4 = .ok (.iload_n 0, 1) := by decide +kernel
theorem dJ9_abs_0f7a4_5 : decode cJ9_abs_0f7a4 5 = .ok (.ineg, 1) := by decide +kernel
theorem dJ9_abs_0f7a4_6 : decode cJ9_abs_0f7a4 6 = .ok (.goto 4, 3) := by decide +kernel
theorem dJ9_abs_0f7a4_9 : decode cJ9_abs_0f7a4 9 = .ok (.iload_n 0, 1) := by decide +kernel
theorem dJ9_abs_0f7a4_10 : decode cJ9_abs_0f7a4 10 = .ok (.ireturn, 1) := by decide +kernel
theorem dJ9_max_7cf53_0 : decode cJ9_max_7cf53 0 = .ok (.iload_n 0, 1) := by decide +kernel
theorem dJ9_max_7cf53_1 : decode cJ9_max_7cf53 1 = .ok (.iload_n 1, 1) := by decide +kernel
theorem dJ9_max_7cf53_2 : decode cJ9_max_7cf53 2 = .ok (.if_icmp .lt 7, 3) := by decide +kernel
theorem dJ9_max_7cf53_5 : decode cJ9_max_7cf53 5 = .ok (.iload_n 0, 1) := by decide +kernel
theorem dJ9_max_7cf53_6 : decode cJ9_max_7cf53 6 = .ok (.goto 4, 3) := by decide +kernel
theorem dJ9_max_7cf53_9 : decode cJ9_max_7cf53 9 = .ok (.iload_n 1, 1) := by decide +kernel
theorem dJ9_max_7cf53_10 : decode cJ9_max_7cf53 10 = .ok (.ireturn, 1) := by decide +kernel
theorem dJ9_min_7cf53_0 : decode cJ9_min_7cf53 0 = .ok (.iload_n 0, 1) := by decide +kernel
theorem dJ9_min_7cf53_1 : decode cJ9_min_7cf53 1 = .ok (.iload_n 1, 1) := by decide +kernel
theorem dJ9_min_7cf53_2 : decode cJ9_min_7cf53 2 = .ok (.if_icmp .gt 7, 3) := by decide +kernel
theorem dJ9_min_7cf53_5 : decode cJ9_min_7cf53 5 = .ok (.iload_n 0, 1) := by decide +kernel
theorem dJ9_min_7cf53_6 : decode cJ9_min_7cf53 6 = .ok (.goto 4, 3) := by decide +kernel
theorem dJ9_min_7cf53_9 : decode cJ9_min_7cf53 9 = .ok (.iload_n 1, 1) := by decide +kernel
theorem dJ9_min_7cf53_10 : decode cJ9_min_7cf53 10 = .ok (.ireturn, 1) := by decide +kernel
theorem dJ9_min_f86c9_0 : decode cJ9_min_f86c9 0 = .ok (.lload_n 0, 1) := by decide +kernel
theorem dJ9_min_f86c9_1 : decode cJ9_min_f86c9 1 = .ok (.lload_n 2, 1) := by decide +kernel
theorem dJ9_min_f86c9_2 : decode cJ9_min_f86c9 2 = .ok (.lcmp, 1) := by decide +kernel
theorem dJ9_min_f86c9_3 : decode cJ9_min_f86c9 3 = .ok (.ifCond .gt 7, 3) := by decide +kernel
theorem dJ9_min_f86c9_6 : decode cJ9_min_f86c9 6 = .ok (.lload_n 0, 1) := by decide +kernel
theorem dJ9_min_f86c9_7 : decode cJ9_min_f86c9 7 = .ok (.goto 4, 3) := by decide +kernel
theorem dJ9_min_f86c9_10 : decode cJ9_min_f86c9 10 = .ok (.lload_n 2, 1) := by decide +kernel
theorem dJ9_min_f86c9_11 : decode cJ9_min_f86c9 11 = .ok (.lreturn, 1) := by decide +kernel
theorem dJ0_length_8abf5_0 : decode cJ0_length_8abf5 0 = .ok (.aload_n 0, 1) := by decide +kernel
theorem dJ0_length_8abf5_1 : decode cJ0_length_8abf5 1 = .ok (.getfield 9, 3) := by decide +kernel
theorem dJ0_length_8abf5_4 : decode cJ0_length_8abf5 4 = .ok (.arraylength, 1) := by decide +kernel
theorem dJ0_length_8abf5_5 : decode cJ0_length_8abf5 5 = .ok (.aload_n 0, 1) := by decide +kernel
theorem dJ0_length_8abf5_6 : decode cJ0_length_8abf5 6 = .ok (.invokevirtual 335, 3) := by decide +kernel
theorem dJ0_length_8abf5_9 : decode cJ0_length_8abf5 9 = .ok (.ishr, 1) := by decide +kernel
theorem dJ0_length_8abf5_10 : decode cJ0_length_8abf5 10 = .ok (.ireturn, 1) := by decide +kernel
theorem dJ0_charAt_5068e_0 : decode cJ0_charAt_5068e 0 = .ok (.aload_n 0, 1) := by decide +kernel
theorem dJ0_charAt_5068e_1 : decode cJ0_charAt_5068e 1 = .ok (.invokevirtual 492, 3) := by decide +kernel
theorem dJ0_charAt_5068e_4 : decode cJ0_charAt_5068e 4 = .ok (.ifCond .eq 12, 3) := by decide +kernel
theorem dJ0_charAt_5068e_7 : decode cJ0_charAt_5068e 7 = .ok (.aload_n 0, 1) := by decide +kernel
theorem dJ0_charAt_5068e_8 : decode cJ0_charAt_5068e 8 = .ok (.getfield 9, 3) := by decide +kernel
theorem dJ0_charAt_5068e_11 : decode cJ0_charAt_5068e 11 = .ok (.iload_n 1, 1) := by decide +kernel
theorem dJ0_charAt_5068e_12 : decode cJ0_charAt_5068e 12 = .ok (.invokestatic 495, 3) := by decide +kernel
theorem dJ0_charAt_5068e_15 : decode cJ0_charAt_5068e 15 = .ok (.ireturn, 1) := by decide +kernel
theorem dJ0_charAt_5068e_16 : decode cJ0_charAt_5068e 16 = .ok (.aload_n 0, 1) := by decide +kernel
theorem dJ0_charAt_5068e_17 : decode cJ0_charAt_5068e 17 = .ok (.getfield 9, 3) := by decide +kernel
theorem dJ0_charAt_5068e_20 : decode cJ0_charAt_5068e 20 = .ok (.iload_n 1, 1) := by decide +kernel
theorem dJ0_charAt_5068e_21 : decode cJ0_charAt_5068e 21 = .ok (.invokestatic 498, 3) := by decide +kernel
theorem dJ0_charAt_5068e_24 : decode cJ0_charAt_5068e 24 = .ok (.ireturn, 1) := by decide +kernel
theorem dJ0_coder_7d493_0 : decode cJ0_coder_7d493 0 = .ok (.getstatic 38, 3) := by decide +kernel
theorem dJ0_coder_7d493_3 : decode cJ0_coder_7d493 3 = .ok (.ifCond .eq 10, 3) := by decide +kernel
theorem dJ0_coder_7d493_6 : decode cJ0_coder_7d493 6 = .ok (.aload_n 0, 1) := by decide +kernel
theorem dJ0_coder_7d493_7 : decode cJ0_coder_7d493 7 = .ok (.getfield 15, 3) := by decide +kernel
theorem dJ0_coder_7d493_10 : decode cJ0_coder_7d493 10 = .ok (.goto 4, 3) := by decide +kernel
theorem dJ0_coder_7d493_13 : decode cJ0_coder_7d493 13 = .ok (.iconst 1, 1) := by decide +kernel
theorem dJ0_coder_7d493_14 : decode cJ0_coder_7d493 14 = .ok (.ireturn, 1) := by decide +kernel
theorem dJ0_isLatin1_aae02_0 : decode cJ0_isLatin1_aae02 0 = .ok (.getstatic 38, 3) := by decide +kernel
theorem dJ0_isLatin1_aae02_3 : decode cJ0_isLatin1_aae02 3 = .ok (.ifCond .eq 14, 3) := by decide +kernel
theorem dJ0_isLatin1_aae02_6 : decode cJ0_isLatin1_aae02 6 = .ok (.aload_n 0, 1) := by decide +kernel
theorem dJ0_isLatin1_aae02_7 : decode cJ0_isLatin1_aae02 7 = .ok (.getfield 15, 3) := by decide +kernel
theorem dJ0_isLatin1_aae02_10 : decode cJ0_isLatin1_aae02 10 = .ok (.ifCond .ne 7, 3) := by decide +kernel
theorem dJ0_isLatin1_aae02_13 : decode cJ0_isLatin1_aae02 13 = .ok (.iconst 1, 1) := by decide +kernel
theorem dJ0_isLatin1_aae02_14 : decode cJ0_isLatin1_aae02 14 = .ok (.goto 4, 3) := by decide +kernel
theorem dJ0_isLatin1_aae02_17 : decode cJ0_isLatin1_aae02 17 = .ok (.iconst 0, 1) := by decide +kernel
theorem dJ0_isLatin1_aae02_18 : decode cJ0_isLatin1_aae02 18 = .ok (.ireturn, 1) := by decide +kernel
theorem dJ0_checkIndex_df160_0 : decode cJ0_checkIndex_df160 0 = .ok (.iload_n 0, 1) := by decide +kernel
theorem dJ0_checkIndex_df160_1 : decode cJ0_checkIndex_df160 1 = .ok (.iload_n 1, 1) := by decide +kernel
theorem dJ0_checkIndex_df160_2 : decode cJ0_checkIndex_df160 2 = .ok (.getstatic 1053, 3) := by decide +kernel
theorem dJ0_checkIndex_df160_5 : decode cJ0_checkIndex_df160 5 = .ok (.invokestatic 1059, 3) := by decide +kernel
theorem dJ0_checkIndex_df160_8 : decode cJ0_checkIndex_df160 8 = .ok (.pop, 1) := by decide +kernel
theorem dJ0_checkIndex_df160_9 : decode cJ0_checkIndex_df160 9 = .ok (.return_, 1) := by decide +kernel
theorem dJ1_charAt_3b067_0 : decode cJ1_charAt_3b067 0 = .ok (.iload_n 1, 1) := by decide +kernel
theorem dJ1_charAt_3b067_1 : decode cJ1_charAt_3b067 1 = .ok (.aload_n 0, 1) := by decide +kernel
theorem dJ1_charAt_3b067_2 : decode cJ1_charAt_3b067 2 = .ok (.arraylength, 1) := by decide +kernel
theorem dJ1_charAt_3b067_3 : decode cJ1_charAt_3b067 3 = .ok (.invokestatic 9, 3) := by decide +kernel
theorem dJ1_charAt_3b067_6 : decode cJ1_charAt_3b067 6 = .ok (.aload_n 0, 1) := by decide +kernel
theorem dJ1_charAt_3b067_7 : decode cJ1_charAt_3b067 7 = .ok (.iload_n 1, 1) := by decide +kernel
theorem dJ1_charAt_3b067_8 : decode cJ1_charAt_3b067 8 = .ok (.baload, 1) := by decide +kernel
theorem dJ1_charAt_3b067_9 : decode cJ1_charAt_3b067 9 = .ok (.sipush 255, 3) := by decide +kernel
theorem dJ1_charAt_3b067_12 : decode cJ1_charAt_3b067 12 = .ok (.iand, 1) := by decide +kernel
theorem dJ1_charAt_3b067_13 : decode cJ1_charAt_3b067 13 = .ok (.i2c, 1) := by decide +kernel
theorem dJ1_charAt_3b067_14 : decode cJ1_charAt_3b067 14 = .ok (.ireturn, 1) := by decide +kernel
theorem dJ2_getChar_3b067_0 : decode cJ2_getChar_3b067 0 = .ok (.getstatic 44, 3) := by decide +kernel
theorem dJ2_getChar_3b067_3 : decode cJ2_getChar_3b067 3 = .ok (.ifCond .ne 25, 3) := by decide +kernel
theorem dJ2_getChar_3b067_6 : decode cJ2_getChar_3b067 6 = .ok (.iload_n 1, 1) := by decide +kernel
theorem dJ2_getChar_3b067_7 : decode cJ2_getChar_3b067 7 = .ok (.ifCond .lt 11, 3) := by decide +kernel
theorem dJ2_getChar_3b067_10 : decode cJ2_getChar_3b067 10 = .ok (.iload_n 1, 1) := by decide +kernel
theorem dJ2_getChar_3b067_11 : decode cJ2_getChar_3b067 11 = .ok (.aload_n 0, 1) := by decide +kernel
theorem dJ2_getChar_3b067_12 : decode cJ2_getChar_3b067 12 = .ok (.invokestatic 48, 3) := by decide +kernel
theorem dJ2_getChar_3b067_15 : decode cJ2_getChar_3b067 15 = .ok (.if_icmp .lt 13, 3) := by decide +kernel
theorem dJ2_getChar_3b067_18 : decode cJ2_getChar_3b067 18 = .ok (.new 52, 3) := by decide +kernel
theorem dJ2_getChar_3b067_21 : decode cJ2_getChar_3b067 21 = .ok (.dup, 1) := by decide +kernel
theorem dJ2_getChar_3b067_22 : decode cJ2_getChar_3b067 22 = .ok (.ldc 54, 2) := by decide +kernel
theorem dJ2_getChar_3b067_24 : decode cJ2_getChar_3b067 24 = .ok (.invokespecial 56, 3) := by decide +kernel
theorem dJ2_getChar_3b067_27 : decode cJ2_getChar_3b067 27 = .ok (.athrow, 1) := by decide +kernel
theorem dJ2_getChar_3b067_28 : decode cJ2_getChar_3b067 28 = .ok (.iload_n 1, 1) := by decide +kernel
theorem dJ2_getChar_3b067_29 : decode cJ2_getChar_3b067 29 = .ok (.iconst 1, 1) := by decide +kernel
theorem dJ2_getChar_3b067_30 : decode cJ2_getChar_3b067 30 = .ok (.ishl, 1) := by decide +kernel
theorem dJ2_getChar_3b067_31 : decode cJ2_getChar_3b067 31 = .ok (.istore_n 1, 1) := by decide +kernel
theorem dJ2_getChar_3b067_32 : decode cJ2_getChar_3b067 32 = .ok (.aload_n 0, 1) := by decide +kernel
theorem dJ2_getChar_3b067_33 : decode cJ2_getChar_3b067 33 = .ok (.iload_n 1, 1) := by decide +kernel
theorem dJ2_getChar_3b067_34 : decode cJ2_getChar_3b067 34 = .ok (.iinc 1 1, 3) := by decide +kernel
theorem dJ2_getChar_3b067_37 : decode cJ2_getChar_3b067 37 = .ok (.baload, 1) := by decide +kernel
theorem dJ2_getChar_3b067_38 : decode cJ2_getChar_3b067 38 = .ok (.sipush 255, 3) := by decide +kernel
theorem dJ2_getChar_3b067_41 : decode cJ2_getChar_3b067 41 = .ok (.iand, 1) := by decide +kernel
theorem dJ2_getChar_3b067_42 : decode cJ2_getChar_3b067 42 = .ok (.getstatic 59, 3) := by decide +kernel
theorem dJ2_getChar_3b067_45 : decode cJ2_getChar_3b067 45 = .ok (.ishl, 1) := by decide +kernel
theorem dJ2_getChar_3b067_46 : decode cJ2_getChar_3b067 46 = .ok (.aload_n 0, 1) := by decide +kernel
theorem dJ2_getChar_3b067_47 : decode cJ2_getChar_3b067 47 = .ok (.iload_n 1, 1) := by decide +kernel
theorem dJ2_getChar_3b067_48 : decode cJ2_getChar_3b067 48 = .ok (.baload, 1) := by decide +kernel
theorem dJ2_getChar_3b067_49 : decode cJ2_getChar_3b067 49 = .ok (.sipush 255, 3) := by decide +kernel
theorem dJ2_getChar_3b067_52 : decode cJ2_getChar_3b067 52 = .ok (.iand, 1) := by decide +kernel
theorem dJ2_getChar_3b067_53 : decode cJ2_getChar_3b067 53 = .ok (.getstatic 63, 3) := by decide +kernel
theorem dJ2_getChar_3b067_56 : decode cJ2_getChar_3b067 56 = .ok (.ishl, 1) := by decide +kernel
theorem dJ2_getChar_3b067_57 : decode cJ2_getChar_3b067 57 = .ok (.ior, 1) := by decide +kernel
theorem dJ2_getChar_3b067_58 : decode cJ2_getChar_3b067 58 = .ok (.i2c, 1) := by decide +kernel
theorem dJ2_getChar_3b067_59 : decode cJ2_getChar_3b067 59 = .ok (.ireturn, 1) := by decide +kernel
theorem dJ2_length_9d52b_0 : decode cJ2_length_9d52b 0 = .ok (.aload_n 0, 1) := by decide +kernel
theorem dJ2_length_9d52b_1 : decode cJ2_length_9d52b 1 = .ok (.arraylength, 1) := by decide +kernel
theorem dJ2_length_9d52b_2 : decode cJ2_length_9d52b 2 = .ok (.iconst 1, 1) := by decide +kernel
theorem dJ2_length_9d52b_3 : decode cJ2_length_9d52b 3 = .ok (.ishr, 1) := by decide +kernel
theorem dJ2_length_9d52b_4 : decode cJ2_length_9d52b 4 = .ok (.ireturn, 1) := by decide +kernel
theorem dJ2_charAt_3b067_0 : decode cJ2_charAt_3b067 0 = .ok (.iload_n 1, 1) := by decide +kernel
theorem dJ2_charAt_3b067_1 : decode cJ2_charAt_3b067 1 = .ok (.aload_n 0, 1) := by decide +kernel
theorem dJ2_charAt_3b067_2 : decode cJ2_charAt_3b067 2 = .ok (.invokestatic 67, 3) := by decide +kernel
theorem dJ2_charAt_3b067_5 : decode cJ2_charAt_3b067 5 = .ok (.aload_n 0, 1) := by decide +kernel
theorem dJ2_charAt_3b067_6 : decode cJ2_charAt_3b067 6 = .ok (.iload_n 1, 1) := by decide +kernel
theorem dJ2_charAt_3b067_7 : decode cJ2_charAt_3b067 7 = .ok (.invokestatic 71, 3) := by decide +kernel
theorem dJ2_charAt_3b067_10 : decode cJ2_charAt_3b067 10 = .ok (.ireturn, 1) := by decide +kernel
theorem dJ2_checkIndex_2214a_0 : decode cJ2_checkIndex_2214a 0 = .ok (.iload_n 0, 1) := by decide +kernel
theorem dJ2_checkIndex_2214a_1 : decode cJ2_checkIndex_2214a 1 = .ok (.aload_n 1, 1) := by decide +kernel
theorem dJ2_checkIndex_2214a_2 : decode cJ2_checkIndex_2214a 2 = .ok (.invokestatic 48, 3) := by decide +kernel
theorem dJ2_checkIndex_2214a_5 : decode cJ2_checkIndex_2214a 5 = .ok (.invokestatic 414, 3) := by decide +kernel
theorem dJ2_checkIndex_2214a_8 : decode cJ2_checkIndex_2214a 8 = .ok (.return_, 1) := by decide +kernel
theorem dJ7_fill_53178_0 : decode cJ7_fill_53178 0 = .ok (.iconst 0, 1) := by decide +kernel
theorem dJ7_fill_53178_1 : decode cJ7_fill_53178 1 = .ok (.istore_n 2, 1) := by decide +kernel
theorem dJ7_fill_53178_2 : decode cJ7_fill_53178 2 = .ok (.aload_n 0, 1) := by decide +kernel
theorem dJ7_fill_53178_3 : decode cJ7_fill_53178 3 = .ok (.arraylength, 1) := by decide +kernel
theorem dJ7_fill_53178_4 : decode cJ7_fill_53178 4 = .ok (.istore_n 3, 1) := by decide +kernel
theorem dJ7_fill_53178_5 : decode cJ7_fill_53178 5 = .ok (.iload_n 2, 1) := by decide +kernel
theorem dJ7_fill_53178_6 : decode cJ7_fill_53178 6 = .ok (.iload_n 3, 1) := by decide +kernel
theorem dJ7_fill_53178_7 : decode cJ7_fill_53178 7 = .ok (.if_icmp .ge 13, 3) := by decide +kernel
theorem dJ7_fill_53178_10 : decode cJ7_fill_53178 10 = .ok (.aload_n 0, 1) := by decide +kernel
theorem dJ7_fill_53178_11 : decode cJ7_fill_53178 11 = .ok (.iload_n 2, 1) := by decide +kernel
theorem dJ7_fill_53178_12 : decode cJ7_fill_53178 12 = .ok (.iload_n 1, 1) := by decide +kernel
theorem dJ7_fill_53178_13 : decode cJ7_fill_53178 13 = .ok (.iastore, 1) := by decide +kernel
theorem dJ7_fill_53178_14 : decode cJ7_fill_53178 14 = .ok (.iinc 2 1, 3) := by decide +kernel
theorem dJ7_fill_53178_17 : decode cJ7_fill_53178 17 = .ok (.goto (-12), 3) := by decide +kernel
theorem dJ7_fill_53178_20 : decode cJ7_fill_53178 20 = .ok (.return_, 1) := by decide +kernel
theorem dJ3_checkIndex_8e157_0 : decode cJ3_checkIndex_8e157 0 = .ok (.iload_n 0, 1) := by decide +kernel
theorem dJ3_checkIndex_8e157_1 : decode cJ3_checkIndex_8e157 1 = .ok (.ifCond .lt 8, 3) := by decide +kernel
theorem dJ3_checkIndex_8e157_4 : decode cJ3_checkIndex_8e157 4 = .ok (.iload_n 0, 1) := by decide +kernel
theorem dJ3_checkIndex_8e157_5 : decode cJ3_checkIndex_8e157 5 = .ok (.iload_n 1, 1) := by decide +kernel
theorem dJ3_checkIndex_8e157_6 : decode cJ3_checkIndex_8e157 6 = .ok (.if_icmp .lt 10, 3) := by decide +kernel
theorem dJ3_checkIndex_8e157_9 : decode cJ3_checkIndex_8e157 9 = .ok (.aload_n 2, 1) := by decide +kernel
theorem dJ3_checkIndex_8e157_10 : decode cJ3_checkIndex_8e157 10 = .ok (.iload_n 0, 1) := by decide +kernel
theorem dJ3_checkIndex_8e157_11 : decode cJ3_checkIndex_8e157 11 = .ok (.iload_n 1, 1) := by decide +kernel
theorem dJ3_checkIndex_8e157_12 : decode cJ3_checkIndex_8e157 12 = .ok (.invokestatic 95, 3) := by decide +kernel
theorem dJ3_checkIndex_8e157_15 : decode cJ3_checkIndex_8e157 15 = .ok (.athrow, 1) := by decide +kernel
theorem dJ3_checkIndex_8e157_16 : decode cJ3_checkIndex_8e157 16 = .ok (.iload_n 0, 1) := by decide +kernel
theorem dJ3_checkIndex_8e157_17 : decode cJ3_checkIndex_8e157 17 = .ok (.ireturn, 1) := by decide +kernel
