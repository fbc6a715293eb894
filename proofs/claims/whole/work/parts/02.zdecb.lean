theorem dX10_init_0 : decode cX10_init 0 = .ok (.aload_n 0, 1) := by decide +kernel
theorem dX10_init_1 : decode cX10_init 1 = .ok (.invokespecial 3, 3) := by decide +kernel
theorem dX10_init_4 : decode cX10_init 4 = .ok (.aload_n 0, 1) := by decide +kernel
theorem dX10_init_5 : decode cX10_init 5 = .ok (.sipush 1600, 3) := by decide +kernel
theorem dX10_init_8 : decode cX10_init 8 = .ok (.newarray .byte, 2) := by decide +kernel
theorem dX10_init_10 : decode cX10_init 10 = .ok (.putfield 9, 3) := by decide +kernel
theorem dX10_init_13 : decode cX10_init 13 = .ok (.aload_n 0, 1) := by decide +kernel
theorem dX10_init_14 : decode cX10_init 14 = .ok (.new 13, 3) := by decide +kernel
theorem dX10_init_17 : decode cX10_init 17 = .ok (.dup, 1) := by decide +kernel
theorem dX10_init_18 : decode cX10_init 18 = .ok (.invokespecial 15, 3) := by decide +kernel
theorem dX10_init_21 : decode cX10_init 21 = .ok (.putfield 16, 3) := by decide +kernel
theorem dX10_init_24 : decode cX10_init 24 = .ok (.aload_n 0, 1) := by decide +kernel
theorem dX10_init_25 : decode cX10_init 25 = .ok (.new 20, 3) := by decide +kernel
theorem dX10_init_28 : decode cX10_init 28 = .ok (.dup, 1) := by decide +kernel
theorem dX10_init_29 : decode cX10_init 29 = .ok (.aload_n 0, 1) := by decide +kernel
theorem dX10_init_30 : decode cX10_init 30 = .ok (.getfield 16, 3) := by decide +kernel
theorem dX10_init_33 : decode cX10_init 33 = .ok (.invokespecial 22, 3) := by decide +kernel
theorem dX10_init_36 : decode cX10_init 36 = .ok (.putfield 25, 3) := by decide +kernel
theorem dX10_init_39 : decode cX10_init 39 = .ok (.aload_n 0, 1) := by decide +kernel
theorem dX10_init_40 : decode cX10_init 40 = .ok (.new 29, 3) := by decide +kernel
theorem dX10_init_43 : decode cX10_init 43 = .ok (.dup, 1) := by decide +kernel
theorem dX10_init_44 : decode cX10_init 44 = .ok (.new 13, 3) := by decide +kernel
theorem dX10_init_47 : decode cX10_init 47 = .ok (.dup, 1) := by decide +kernel
theorem dX10_init_48 : decode cX10_init 48 = .ok (.invokespecial 15, 3) := by decide +kernel
theorem dX10_init_51 : decode cX10_init 51 = .ok (.invokespecial 31, 3) := by decide +kernel
theorem dX10_init_54 : decode cX10_init 54 = .ok (.putfield 32, 3) := by decide +kernel
theorem dX10_init_57 : decode cX10_init 57 = .ok (.aload_n 0, 1) := by decide +kernel
theorem dX10_init_58 : decode cX10_init 58 = .ok (.new 36, 3) := by decide +kernel
theorem dX10_init_61 : decode cX10_init 61 = .ok (.dup, 1) := by decide +kernel
theorem dX10_init_62 : decode cX10_init 62 = .ok (.invokespecial 38, 3) := by decide +kernel
theorem dX10_init_65 : decode cX10_init 65 = .ok (.putfield 39, 3) := by decide +kernel
theorem dX10_init_68 : decode cX10_init 68 = .ok (.aload_n 0, 1) := by decide +kernel
theorem dX10_init_69 : decode cX10_init 69 = .ok (.new 43, 3) := by decide +kernel
theorem dX10_init_72 : decode cX10_init 72 = .ok (.dup, 1) := by decide +kernel
theorem dX10_init_73 : decode cX10_init 73 = .ok (.invokespecial 45, 3) := by decide +kernel
theorem dX10_init_76 : decode cX10_init 76 = .ok (.putfield 46, 3) := by decide +kernel
theorem dX10_init_79 : decode cX10_init 79 = .ok (.aload_n 0, 1) := by decide +kernel
theorem dX10_init_80 : decode cX10_init 80 = .ok (.iconst 3, 1) := by decide +kernel
theorem dX10_init_81 : decode cX10_init 81 = .ok (.anewarray 36, 3) := by decide +kernel
theorem dX10_init_84 : decode cX10_init 84 = .ok (.putfield 50, 3) := by decide +kernel
theorem dX10_init_87 : decode cX10_init 87 = .ok (.aload_n 0, 1) := by decide +kernel
theorem dX10_init_88 : decode cX10_init 88 = .ok (.iconst 3, 1) := by decide +kernel
theorem dX10_init_89 : decode cX10_init 89 = .ok (.newarray .boolean, 2) := by decide +kernel
theorem dX10_init_91 : decode cX10_init 91 = .ok (.putfield 54, 3) := by decide +kernel
theorem dX10_init_94 : decode cX10_init 94 = .ok (.aload_n 0, 1) := by decide +kernel
theorem dX10_init_95 : decode cX10_init 95 = .ok (.new 58, 3) := by decide +kernel
theorem dX10_init_98 : decode cX10_init 98 = .ok (.dup, 1) := by decide +kernel
theorem dX10_init_99 : decode cX10_init 99 = .ok (.aload_n 0, 1) := by decide +kernel
theorem dX10_init_100 : decode cX10_init 100 = .ok (.getfield 32, 3) := by decide +kernel
theorem dX10_init_103 : decode cX10_init 103 = .ok (.invokespecial 60, 3) := by decide +kernel
theorem dX10_init_106 : decode cX10_init 106 = .ok (.putfield 63, 3) := by decide +kernel
theorem dX10_init_109 : decode cX10_init 109 = .ok (.aload_n 0, 1) := by decide +kernel
theorem dX10_init_110 : decode cX10_init 110 = .ok (.new 67, 3) := by decide +kernel
theorem dX10_init_113 : decode cX10_init 113 = .ok (.dup, 1) := by decide +kernel
theorem dX10_init_114 : decode cX10_init 114 = .ok (.aload_n 0, 1) := by decide +kernel
theorem dX10_init_115 : decode cX10_init 115 = .ok (.getfield 32, 3) := by decide +kernel
theorem dX10_init_118 : decode cX10_init 118 = .ok (.invokespecial 69, 3) := by decide +kernel
theorem dX10_init_121 : decode cX10_init 121 = .ok (.putfield 70, 3) := by decide +kernel
theorem dX10_init_124 : decode cX10_init 124 = .ok (.aload_n 0, 1) := by decide +kernel
theorem dX10_init_125 : decode cX10_init 125 = .ok (.new 74, 3) := by decide +kernel
theorem dX10_init_128 : decode cX10_init 128 = .ok (.dup, 1) := by decide +kernel
theorem dX10_init_129 : decode cX10_init 129 = .ok (.aload_n 0, 1) := by decide +kernel
theorem dX10_init_130 : decode cX10_init 130 = .ok (.getfield 70, 3) := by decide +kernel
theorem dX10_init_133 : decode cX10_init 133 = .ok (.invokespecial 76, 3) := by decide +kernel
theorem dX10_init_136 : decode cX10_init 136 = .ok (.putfield 79, 3) := by decide +kernel
theorem dX10_init_139 : decode cX10_init 139 = .ok (.aload_n 0, 1) := by decide +kernel
theorem dX10_init_140 : decode cX10_init 140 = .ok (.bipush 36, 2) := by decide +kernel
theorem dX10_init_142 : decode cX10_init 142 = .ok (.newarray .int, 2) := by decide +kernel
theorem dX10_init_144 : decode cX10_init 144 = .ok (.putfield 83, 3) := by decide +kernel
theorem dX10_init_147 : decode cX10_init 147 = .ok (.aload_n 0, 1) := by decide +kernel
theorem dX10_init_148 : decode cX10_init 148 = .ok (.getfield 39, 3) := by decide +kernel
theorem dX10_init_151 : decode cX10_init 151 = .ok (.aload_n 0, 1) := by decide +kernel
theorem dX10_init_152 : decode cX10_init 152 = .ok (.getfield 32, 3) := by decide +kernel
theorem dX10_init_155 : decode cX10_init 155 = .ok (.getfield 87, 3) := by decide +kernel
theorem dX10_init_158 : decode cX10_init 158 = .ok (.invokevirtual 90, 3) := by decide +kernel
theorem dX10_init_161 : decode cX10_init 161 = .ok (.aload_n 0, 1) := by decide +kernel
theorem dX10_init_162 : decode cX10_init 162 = .ok (.getfield 46, 3) := by decide +kernel
theorem dX10_init_165 : decode cX10_init 165 = .ok (.aload_n 0, 1) := by decide +kernel
theorem dX10_init_166 : decode cX10_init 166 = .ok (.getfield 39, 3) := by decide +kernel
theorem dX10_init_169 : decode cX10_init 169 = .ok (.invokevirtual 93, 3) := by decide +kernel
theorem dX10_init_172 : decode cX10_init 172 = .ok (.return_, 1) := by decide +kernel
theorem dX10_feed_0 : decode cX10_feed 0 = .ok (.aload_n 0, 1) := by decide +kernel
theorem dX10_feed_1 : decode cX10_feed 1 = .ok (.getfield 97, 3) := by decide +kernel
theorem dX10_feed_4 : decode cX10_feed 4 = .ok (.sipush 1580, 3) := by decide +kernel
theorem dX10_feed_7 : decode cX10_feed 7 = .ok (.if_icmp .le 5, 3) := by decide +kernel
theorem dX10_feed_10 : decode cX10_feed 10 = .ok (.iconst (-1), 1) := by decide +kernel
theorem dX10_feed_11 : decode cX10_feed 11 = .ok (.ireturn, 1) := by decide +kernel
theorem dX10_feed_12 : decode cX10_feed 12 = .ok (.aload_n 0, 1) := by decide +kernel
theorem dX10_feed_13 : decode cX10_feed 13 = .ok (.iload_n 1, 1) := by decide +kernel
theorem dX10_feed_14 : decode cX10_feed 14 = .ok (.invokevirtual 101, 3) := by decide +kernel
theorem dX10_feed_17 : decode cX10_feed 17 = .ok (.aload_n 0, 1) := by decide +kernel
theorem dX10_feed_18 : decode cX10_feed 18 = .ok (.iload_n 2, 1) := by decide +kernel
theorem dX10_feed_19 : decode cX10_feed 19 = .ok (.invokevirtual 101, 3) := by decide +kernel
theorem dX10_feed_22 : decode cX10_feed 22 = .ok (.aload_n 0, 1) := by decide +kernel
theorem dX10_feed_23 : decode cX10_feed 23 = .ok (.iload_n 3, 1) := by decide +kernel
theorem dX10_feed_24 : decode cX10_feed 24 = .ok (.invokevirtual 101, 3) := by decide +kernel
theorem dX10_feed_27 : decode cX10_feed 27 = .ok (.aload_n 0, 1) := by decide +kernel
theorem dX10_feed_28 : decode cX10_feed 28 = .ok (.iload 4, 2) := by decide +kernel
theorem dX10_feed_30 : decode cX10_feed 30 = .ok (.invokevirtual 101, 3) := by decide +kernel
theorem dX10_feed_33 : decode cX10_feed 33 = .ok (.aload_n 0, 1) := by decide +kernel
theorem dX10_feed_34 : decode cX10_feed 34 = .ok (.iload 5, 2) := by decide +kernel
theorem dX10_feed_36 : decode cX10_feed 36 = .ok (.invokevirtual 101, 3) := by decide +kernel
theorem dX10_feed_39 : decode cX10_feed 39 = .ok (.aload_n 0, 1) := by decide +kernel
theorem dX10_feed_40 : decode cX10_feed 40 = .ok (.getfield 97, 3) := by decide +kernel
theorem dX10_feed_43 : decode cX10_feed 43 = .ok (.ireturn, 1) := by decide +kernel
theorem dX10_append_0 : decode cX10_append 0 = .ok (.bipush 24, 2) := by decide +kernel
theorem dX10_append_2 : decode cX10_append 2 = .ok (.istore_n 2, 1) := by decide +kernel
theorem dX10_append_3 : decode cX10_append 3 = .ok (.iload_n 2, 1) := by decide +kernel
theorem dX10_append_4 : decode cX10_append 4 = .ok (.ifCond .lt 42, 3) := by decide +kernel
theorem dX10_append_7 : decode cX10_append 7 = .ok (.aload_n 0, 1) := by decide +kernel
theorem dX10_append_8 : decode cX10_append 8 = .ok (.getfield 97, 3) := by decide +kernel
theorem dX10_append_11 : decode cX10_append 11 = .ok (.sipush 1600, 3) := by decide +kernel
theorem dX10_append_14 : decode cX10_append 14 = .ok (.if_icmp .ge 32, 3) := by decide +kernel
theorem dX10_append_17 : decode cX10_append 17 = .ok (.aload_n 0, 1) := by decide +kernel
theorem dX10_append_18 : decode cX10_append 18 = .ok (.getfield 9, 3) := by decide +kernel
theorem dX10_append_21 : decode cX10_append 21 = .ok (.aload_n 0, 1) := by decide +kernel
theorem dX10_append_22 : decode cX10_append 22 = .ok (.getfield 97, 3) := by decide +kernel
theorem dX10_append_25 : decode cX10_append 25 = .ok (.iload_n 1, 1) := by decide +kernel
theorem dX10_append_26 : decode cX10_append 26 = .ok (.iload_n 2, 1) := by decide +kernel
theorem dX10_append_27 : decode cX10_append 27 = .ok (.ishr, 1) := by decide +kernel
theorem dX10_append_28 : decode cX10_append 28 = .ok (.i2b, 1) := by decide +kernel
theorem dX10_append_29 : decode cX10_append 29 = .ok (.bastore, 1) := by decide +kernel
theorem dX10_append_30 : decode cX10_append 30 = .ok (.aload_n 0, 1) := by decide +kernel
theorem dX10_append_31 : decode cX10_append 31 = .ok (.dup, 1) := by decide +kernel
theorem dX10_append_32 : decode cX10_append 32 = .ok (.getfield 97, 3) := by decide +kernel
theorem dX10_append_35 : decode cX10_append 35 = .ok (.iconst 1, 1) := by decide +kernel
theorem dX10_append_36 : decode cX10_append 36 = .ok (.iadd, 1) := by decide +kernel
theorem dX10_append_37 : decode cX10_append 37 = .ok (.putfield 97, 3) := by decide +kernel
theorem dX10_append_40 : decode cX10_append 40 = .ok (.iinc 2 (-8), 3) := by decide +kernel
theorem dX10_append_43 : decode cX10_append 43 = .ok (.goto (-40), 3) := by decide +kernel
theorem dX10_append_46 : decode cX10_append 46 = .ok (.return_, 1) := by decide +kernel
theorem dX10_end_0 : decode cX10_end 0 = .ok (.iload_n 1, 1) := by decide +kernel
theorem dX10_end_1 : decode cX10_end 1 = .ok (.ifCond .lt 11, 3) := by decide +kernel
theorem dX10_end_4 : decode cX10_end 4 = .ok (.iload_n 1, 1) := by decide +kernel
theorem dX10_end_5 : decode cX10_end 5 = .ok (.aload_n 0, 1) := by decide +kernel
theorem dX10_end_6 : decode cX10_end 6 = .ok (.getfield 97, 3) := by decide +kernel
theorem dX10_end_9 : decode cX10_end 9 = .ok (.if_icmp .le 5, 3) := by decide +kernel
theorem dX10_end_12 : decode cX10_end 12 = .ok (.iconst (-1), 1) := by decide +kernel
theorem dX10_end_13 : decode cX10_end 13 = .ok (.ireturn, 1) := by decide +kernel
theorem dX10_end_14 : decode cX10_end 14 = .ok (.aload_n 0, 1) := by decide +kernel
theorem dX10_end_15 : decode cX10_end 15 = .ok (.iload_n 1, 1) := by decide +kernel
theorem dX10_end_16 : decode cX10_end 16 = .ok (.putfield 97, 3) := by decide +kernel
theorem dX10_end_19 : decode cX10_end 19 = .ok (.iload_n 1, 1) := by decide +kernel
theorem dX10_end_20 : decode cX10_end 20 = .ok (.ireturn, 1) := by decide +kernel
theorem dX10_tub_0 : decode cX10_tub 0 = .ok (.aload_n 0, 1) := by decide +kernel
theorem dX10_tub_1 : decode cX10_tub 1 = .ok (.getfield 25, 3) := by decide +kernel
theorem dX10_tub_4 : decode cX10_tub 4 = .ok (.aload_n 0, 1) := by decide +kernel
theorem dX10_tub_5 : decode cX10_tub 5 = .ok (.getfield 9, 3) := by decide +kernel
theorem dX10_tub_8 : decode cX10_tub 8 = .ok (.aload_n 0, 1) := by decide +kernel
theorem dX10_tub_9 : decode cX10_tub 9 = .ok (.getfield 97, 3) := by decide +kernel
theorem dX10_tub_12 : decode cX10_tub 12 = .ok (.aload_n 0, 1) := by decide +kernel
theorem dX10_tub_13 : decode cX10_tub 13 = .ok (.getfield 16, 3) := by decide +kernel
theorem dX10_tub_16 : decode cX10_tub 16 = .ok (.invokevirtual 105, 3) := by decide +kernel
theorem dX10_tub_19 : decode cX10_tub 19 = .ok (.istore_n 1, 1) := by decide +kernel
theorem dX10_tub_20 : decode cX10_tub 20 = .ok (.aload_n 0, 1) := by decide +kernel
theorem dX10_tub_21 : decode cX10_tub 21 = .ok (.iconst 0, 1) := by decide +kernel
theorem dX10_tub_22 : decode cX10_tub 22 = .ok (.putfield 97, 3) := by decide +kernel
theorem dX10_tub_25 : decode cX10_tub 25 = .ok (.iload_n 1, 1) := by decide +kernel
theorem dX10_tub_26 : decode cX10_tub 26 = .ok (.ifCond .ne 5, 3) := by decide +kernel
theorem dX10_tub_29 : decode cX10_tub 29 = .ok (.iconst (-1), 1) := by decide +kernel
theorem dX10_tub_30 : decode cX10_tub 30 = .ok (.ireturn, 1) := by decide +kernel
theorem dX10_tub_31 : decode cX10_tub 31 = .ok (.aload_n 0, 1) := by decide +kernel
theorem dX10_tub_32 : decode cX10_tub 32 = .ok (.getfield 16, 3) := by decide +kernel
theorem dX10_tub_35 : decode cX10_tub 35 = .ok (.astore_n 2, 1) := by decide +kernel
theorem dX10_tub_36 : decode cX10_tub 36 = .ok (.aload_n 0, 1) := by decide +kernel
theorem dX10_tub_37 : decode cX10_tub 37 = .ok (.aload_n 0, 1) := by decide +kernel
theorem dX10_tub_38 : decode cX10_tub 38 = .ok (.getfield 32, 3) := by decide +kernel
theorem dX10_tub_41 : decode cX10_tub 41 = .ok (.getfield 87, 3) := by decide +kernel
theorem dX10_tub_44 : decode cX10_tub 44 = .ok (.putfield 16, 3) := by decide +kernel
theorem dX10_tub_47 : decode cX10_tub 47 = .ok (.aload_n 0, 1) := by decide +kernel
theorem dX10_tub_48 : decode cX10_tub 48 = .ok (.getfield 32, 3) := by decide +kernel
theorem dX10_tub_51 : decode cX10_tub 51 = .ok (.aload_n 2, 1) := by decide +kernel
theorem dX10_tub_52 : decode cX10_tub 52 = .ok (.putfield 87, 3) := by decide +kernel
theorem dX10_tub_55 : decode cX10_tub 55 = .ok (.aload_n 0, 1) := by decide +kernel
theorem dX10_tub_56 : decode cX10_tub 56 = .ok (.getfield 39, 3) := by decide +kernel
theorem dX10_tub_59 : decode cX10_tub 59 = .ok (.aload_n 2, 1) := by decide +kernel
theorem dX10_tub_60 : decode cX10_tub 60 = .ok (.invokevirtual 90, 3) := by decide +kernel
theorem dX10_tub_63 : decode cX10_tub 63 = .ok (.aload_n 0, 1) := by decide +kernel
theorem dX10_tub_64 : decode cX10_tub 64 = .ok (.getfield 46, 3) := by decide +kernel
theorem dX10_tub_67 : decode cX10_tub 67 = .ok (.aload_n 0, 1) := by decide +kernel
theorem dX10_tub_68 : decode cX10_tub 68 = .ok (.getfield 39, 3) := by decide +kernel
theorem dX10_tub_71 : decode cX10_tub 71 = .ok (.invokevirtual 93, 3) := by decide +kernel
theorem dX10_tub_74 : decode cX10_tub 74 = .ok (.aload_n 0, 1) := by decide +kernel
theorem dX10_tub_75 : decode cX10_tub 75 = .ok (.getfield 79, 3) := by decide +kernel
theorem dX10_tub_78 : decode cX10_tub 78 = .ok (.invokevirtual 109, 3) := by decide +kernel
theorem dX10_tub_81 : decode cX10_tub 81 = .ok (.aload_n 0, 1) := by decide +kernel
theorem dX10_tub_82 : decode cX10_tub 82 = .ok (.iconst 0, 1) := by decide +kernel
theorem dX10_tub_83 : decode cX10_tub 83 = .ok (.putfield 112, 3) := by decide +kernel
theorem dX10_tub_86 : decode cX10_tub 86 = .ok (.iconst 0, 1) := by decide +kernel
theorem dX10_tub_87 : decode cX10_tub 87 = .ok (.istore_n 3, 1) := by decide +kernel
theorem dX10_tub_88 : decode cX10_tub 88 = .ok (.iload_n 3, 1) := by decide +kernel
theorem dX10_tub_89 : decode cX10_tub 89 = .ok (.iconst 3, 1) := by decide +kernel
theorem dX10_tub_90 : decode cX10_tub 90 = .ok (.if_icmp .ge 16, 3) := by decide +kernel
theorem dX10_tub_93 : decode cX10_tub 93 = .ok (.aload_n 0, 1) := by decide +kernel
theorem dX10_tub_94 : decode cX10_tub 94 = .ok (.getfield 54, 3) := by decide +kernel
theorem dX10_tub_97 : decode cX10_tub 97 = .ok (.iload_n 3, 1) := by decide +kernel
theorem dX10_tub_98 : decode cX10_tub 98 = .ok (.iconst 0, 1) := by decide +kernel
theorem dX10_tub_99 : decode cX10_tub 99 = .ok (.bastore, 1) := by decide +kernel
theorem dX10_tub_100 : decode cX10_tub 100 = .ok (.iinc 3 1, 3) := by decide +kernel
theorem dX10_tub_103 : decode cX10_tub 103 = .ok (.goto (-15), 3) := by decide +kernel
theorem dX10_tub_106 : decode cX10_tub 106 = .ok (.aload_n 2, 1) := by decide +kernel
theorem dX10_tub_107 : decode cX10_tub 107 = .ok (.getfield 115, 3) := by decide +kernel
theorem dX10_tub_110 : decode cX10_tub 110 = .ok (.ireturn, 1) := by decide +kernel
theorem dX10_fault_0 : decode cX10_fault 0 = .ok (.iload_n 1, 1) := by decide +kernel
theorem dX10_fault_1 : decode cX10_fault 1 = .ok (.ifCond .ne 11, 3) := by decide +kernel
theorem dX10_fault_4 : decode cX10_fault 4 = .ok (.aload_n 0, 1) := by decide +kernel
theorem dX10_fault_5 : decode cX10_fault 5 = .ok (.getfield 25, 3) := by decide +kernel
theorem dX10_fault_8 : decode cX10_fault 8 = .ok (.getfield 118, 3) := by decide +kernel
theorem dX10_fault_11 : decode cX10_fault 11 = .ok (.ireturn, 1) := by decide +kernel
theorem dX10_fault_12 : decode cX10_fault 12 = .ok (.iload_n 1, 1) := by decide +kernel
theorem dX10_fault_13 : decode cX10_fault 13 = .ok (.iconst 1, 1) := by decide +kernel
theorem dX10_fault_14 : decode cX10_fault 14 = .ok (.if_icmp .ne 13, 3) := by decide +kernel
theorem dX10_fault_17 : decode cX10_fault 17 = .ok (.aload_n 0, 1) := by decide +kernel
theorem dX10_fault_18 : decode cX10_fault 18 = .ok (.getfield 25, 3) := by decide +kernel
theorem dX10_fault_21 : decode cX10_fault 21 = .ok (.getfield 121, 3) := by decide +kernel
theorem dX10_fault_24 : decode cX10_fault 24 = .ok (.goto 4, 3) := by decide +kernel
theorem dX10_fault_27 : decode cX10_fault 27 = .ok (.iconst (-1), 1) := by decide +kernel
theorem dX10_fault_28 : decode cX10_fault 28 = .ok (.ireturn, 1) := by decide +kernel
theorem dX10_apple_0 : decode cX10_apple 0 = .ok (.aload_n 0, 1) := by decide +kernel
theorem dX10_apple_1 : decode cX10_apple 1 = .ok (.iload_n 1, 1) := by decide +kernel
theorem dX10_apple_2 : decode cX10_apple 2 = .ok (.invokevirtual 124, 3) := by decide +kernel
theorem dX10_apple_5 : decode cX10_apple 5 = .ok (.ifCond .ne 6, 3) := by decide +kernel
theorem dX10_apple_8 : decode cX10_apple 8 = .ok (.bipush (-2), 2) := by decide +kernel
theorem dX10_apple_10 : decode cX10_apple 10 = .ok (.ireturn, 1) := by decide +kernel
theorem dX10_apple_11 : decode cX10_apple 11 = .ok (.iload_n 2, 1) := by decide +kernel
theorem dX10_apple_12 : decode cX10_apple 12 = .ok (.tableswitch 86 0 4 #[36, 46, 56, 66, 76], 36) := by decide +kernel
theorem dX10_apple_48 : decode cX10_apple 48 = .ok (.aload_n 0, 1) := by decide +kernel
theorem dX10_apple_49 : decode cX10_apple 49 = .ok (.getfield 39, 3) := by decide +kernel
theorem dX10_apple_52 : decode cX10_apple 52 = .ok (.getfield 128, 3) := by decide +kernel
theorem dX10_apple_55 : decode cX10_apple 55 = .ok (.iload_n 1, 1) := by decide +kernel
theorem dX10_apple_56 : decode cX10_apple 56 = .ok (.iaload, 1) := by decide +kernel
theorem dX10_apple_57 : decode cX10_apple 57 = .ok (.ireturn, 1) := by decide +kernel
theorem dX10_apple_58 : decode cX10_apple 58 = .ok (.aload_n 0, 1) := by decide +kernel
theorem dX10_apple_59 : decode cX10_apple 59 = .ok (.getfield 39, 3) := by decide +kernel
theorem dX10_apple_62 : decode cX10_apple 62 = .ok (.getfield 131, 3) := by decide +kernel
theorem dX10_apple_65 : decode cX10_apple 65 = .ok (.iload_n 1, 1) := by decide +kernel
theorem dX10_apple_66 : decode cX10_apple 66 = .ok (.iaload, 1) := by decide +kernel
theorem dX10_apple_67 : decode cX10_apple 67 = .ok (.ireturn, 1) := by decide +kernel
theorem dX10_apple_68 : decode cX10_apple 68 = .ok (.aload_n 0, 1) := by decide +kernel
theorem dX10_apple_69 : decode cX10_apple 69 = .ok (.getfield 39, 3) := by decide +kernel
theorem dX10_apple_72 : decode cX10_apple 72 = .ok (.getfield 134, 3) := by decide +kernel
theorem dX10_apple_75 : decode cX10_apple 75 = .ok (.iload_n 1, 1) := by decide +kernel
theorem dX10_apple_76 : decode cX10_apple 76 = .ok (.iaload, 1) := by decide +kernel
theorem dX10_apple_77 : decode cX10_apple 77 = .ok (.ireturn, 1) := by decide +kernel
theorem dX10_apple_78 : decode cX10_apple 78 = .ok (.aload_n 0, 1) := by decide +kernel
theorem dX10_apple_79 : decode cX10_apple 79 = .ok (.getfield 39, 3) := by decide +kernel
theorem dX10_apple_82 : decode cX10_apple 82 = .ok (.getfield 137, 3) := by decide +kernel
theorem dX10_apple_85 : decode cX10_apple 85 = .ok (.iload_n 1, 1) := by decide +kernel
theorem dX10_apple_86 : decode cX10_apple 86 = .ok (.iaload, 1) := by decide +kernel
theorem dX10_apple_87 : decode cX10_apple 87 = .ok (.ireturn, 1) := by decide +kernel
theorem dX10_apple_88 : decode cX10_apple 88 = .ok (.aload_n 0, 1) := by decide +kernel
theorem dX10_apple_89 : decode cX10_apple 89 = .ok (.getfield 39, 3) := by decide +kernel
theorem dX10_apple_92 : decode cX10_apple 92 = .ok (.getfield 140, 3) := by decide +kernel
theorem dX10_apple_95 : decode cX10_apple 95 = .ok (.iload_n 1, 1) := by decide +kernel
theorem dX10_apple_96 : decode cX10_apple 96 = .ok (.iaload, 1) := by decide +kernel
theorem dX10_apple_97 : decode cX10_apple 97 = .ok (.ireturn, 1) := by decide +kernel
theorem dX10_apple_98 : decode cX10_apple 98 = .ok (.bipush (-2), 2) := by decide +kernel
theorem dX10_apple_100 : decode cX10_apple 100 = .ok (.ireturn, 1) := by decide +kernel
theorem dX10_bobber_0 : decode cX10_bobber 0 = .ok (.aload_n 0, 1) := by decide +kernel
theorem dX10_bobber_1 : decode cX10_bobber 1 = .ok (.iload_n 1, 1) := by decide +kernel
theorem dX10_bobber_2 : decode cX10_bobber 2 = .ok (.invokevirtual 143, 3) := by decide +kernel
theorem dX10_bobber_5 : decode cX10_bobber 5 = .ok (.ifCond .ne 5, 3) := by decide +kernel
theorem dX10_bobber_8 : decode cX10_bobber 8 = .ok (.iconst (-1), 1) := by decide +kernel
theorem dX10_bobber_9 : decode cX10_bobber 9 = .ok (.ireturn, 1) := by decide +kernel
theorem dX10_bobber_10 : decode cX10_bobber 10 = .ok (.iload_n 2, 1) := by decide +kernel
theorem dX10_bobber_11 : decode cX10_bobber 11 = .ok (.tableswitch 55 0 2 #[25, 35, 45], 25) := by decide +kernel
theorem dX10_bobber_36 : decode cX10_bobber 36 = .ok (.aload_n 0, 1) := by decide +kernel
theorem dX10_bobber_37 : decode cX10_bobber 37 = .ok (.getfield 39, 3) := by decide +kernel
theorem dX10_bobber_40 : decode cX10_bobber 40 = .ok (.getfield 146, 3) := by decide +kernel
theorem dX10_bobber_43 : decode cX10_bobber 43 = .ok (.iload_n 1, 1) := by decide +kernel
theorem dX10_bobber_44 : decode cX10_bobber 44 = .ok (.iaload, 1) := by decide +kernel
theorem dX10_bobber_45 : decode cX10_bobber 45 = .ok (.ireturn, 1) := by decide +kernel
theorem dX10_bobber_46 : decode cX10_bobber 46 = .ok (.aload_n 0, 1) := by decide +kernel
theorem dX10_bobber_47 : decode cX10_bobber 47 = .ok (.getfield 39, 3) := by decide +kernel
theorem dX10_bobber_50 : decode cX10_bobber 50 = .ok (.getfield 149, 3) := by decide +kernel
theorem dX10_bobber_53 : decode cX10_bobber 53 = .ok (.iload_n 1, 1) := by decide +kernel
theorem dX10_bobber_54 : decode cX10_bobber 54 = .ok (.iaload, 1) := by decide +kernel
theorem dX10_bobber_55 : decode cX10_bobber 55 = .ok (.ireturn, 1) := by decide +kernel
theorem dX10_bobber_56 : decode cX10_bobber 56 = .ok (.aload_n 0, 1) := by decide +kernel
theorem dX10_bobber_57 : decode cX10_bobber 57 = .ok (.getfield 39, 3) := by decide +kernel
theorem dX10_bobber_60 : decode cX10_bobber 60 = .ok (.getfield 152, 3) := by decide +kernel
theorem dX10_bobber_63 : decode cX10_bobber 63 = .ok (.iload_n 1, 1) := by decide +kernel
theorem dX10_bobber_64 : decode cX10_bobber 64 = .ok (.iaload, 1) := by decide +kernel
theorem dX10_bobber_65 : decode cX10_bobber 65 = .ok (.ireturn, 1) := by decide +kernel
theorem dX10_bobber_66 : decode cX10_bobber 66 = .ok (.iconst (-1), 1) := by decide +kernel
theorem dX10_bobber_67 : decode cX10_bobber 67 = .ok (.ireturn, 1) := by decide +kernel
theorem dX10_odds_0 : decode cX10_odds 0 = .ok (.aload_n 0, 1) := by decide +kernel
theorem dX10_odds_1 : decode cX10_odds 1 = .ok (.iload_n 1, 1) := by decide +kernel
theorem dX10_odds_2 : decode cX10_odds 2 = .ok (.iload_n 2, 1) := by decide +kernel
theorem dX10_odds_3 : decode cX10_odds 3 = .ok (.iload_n 3, 1) := by decide +kernel
theorem dX10_odds_4 : decode cX10_odds 4 = .ok (.invokevirtual 155, 3) := by decide +kernel
theorem dX10_odds_7 : decode cX10_odds 7 = .ok (.ifCond .eq 20, 3) := by decide +kernel
theorem dX10_odds_10 : decode cX10_odds 10 = .ok (.aload_n 0, 1) := by decide +kernel
theorem dX10_odds_11 : decode cX10_odds 11 = .ok (.getfield 32, 3) := by decide +kernel
theorem dX10_odds_14 : decode cX10_odds 14 = .ok (.aload_n 0, 1) := by decide +kernel
theorem dX10_odds_15 : decode cX10_odds 15 = .ok (.getfield 39, 3) := by decide +kernel
theorem dX10_odds_18 : decode cX10_odds 18 = .ok (.iload_n 1, 1) := by decide +kernel
theorem dX10_odds_19 : decode cX10_odds 19 = .ok (.iload_n 2, 1) := by decide +kernel
theorem dX10_odds_20 : decode cX10_odds 20 = .ok (.iload_n 3, 1) := by decide +kernel
theorem dX10_odds_21 : decode cX10_odds 21 = .ok (.invokevirtual 159, 3) := by decide +kernel
theorem dX10_odds_24 : decode cX10_odds 24 = .ok (.goto 4, 3) := by decide +kernel
theorem dX10_odds_27 : decode cX10_odds 27 = .ok (.iconst (-1), 1) := by decide +kernel
theorem dX10_odds_28 : decode cX10_odds 28 = .ok (.ireturn, 1) := by decide +kernel
theorem dX10_chooses_0 : decode cX10_chooses 0 = .ok (.aload_n 0, 1) := by decide +kernel
theorem dX10_chooses_1 : decode cX10_chooses 1 = .ok (.iload_n 1, 1) := by decide +kernel
theorem dX10_chooses_2 : decode cX10_chooses 2 = .ok (.invokevirtual 143, 3) := by decide +kernel
theorem dX10_chooses_5 : decode cX10_chooses 5 = .ok (.ifCond .ne 6, 3) := by decide +kernel
theorem dX10_chooses_8 : decode cX10_chooses 8 = .ok (.bipush (-2), 2) := by decide +kernel
theorem dX10_chooses_10 : decode cX10_chooses 10 = .ok (.ireturn, 1) := by decide +kernel
theorem dX10_chooses_11 : decode cX10_chooses 11 = .ok (.aload_n 0, 1) := by decide +kernel
theorem dX10_chooses_12 : decode cX10_chooses 12 = .ok (.getfield 32, 3) := by decide +kernel
theorem dX10_chooses_15 : decode cX10_chooses 15 = .ok (.aload_n 0, 1) := by decide +kernel
theorem dX10_chooses_16 : decode cX10_chooses 16 = .ok (.getfield 39, 3) := by decide +kernel
theorem dX10_chooses_19 : decode cX10_chooses 19 = .ok (.iload_n 1, 1) := by decide +kernel
theorem dX10_chooses_20 : decode cX10_chooses 20 = .ok (.aload_n 0, 1) := by decide +kernel
theorem dX10_chooses_21 : decode cX10_chooses 21 = .ok (.getfield 32, 3) := by decide +kernel
theorem dX10_chooses_24 : decode cX10_chooses 24 = .ok (.getfield 87, 3) := by decide +kernel
theorem dX10_chooses_27 : decode cX10_chooses 27 = .ok (.iload_n 1, 1) := by decide +kernel
theorem dX10_chooses_28 : decode cX10_chooses 28 = .ok (.invokevirtual 163, 3) := by decide +kernel
theorem dX10_chooses_31 : decode cX10_chooses 31 = .ok (.invokevirtual 167, 3) := by decide +kernel
theorem dX10_chooses_34 : decode cX10_chooses 34 = .ok (.ireturn, 1) := by decide +kernel
theorem dX10_go_0 : decode cX10_go 0 = .ok (.aload_n 0, 1) := by decide +kernel
theorem dX10_go_1 : decode cX10_go 1 = .ok (.iload_n 1, 1) := by decide +kernel
theorem dX10_go_2 : decode cX10_go 2 = .ok (.iload_n 2, 1) := by decide +kernel
theorem dX10_go_3 : decode cX10_go 3 = .ok (.iload_n 3, 1) := by decide +kernel
theorem dX10_go_4 : decode cX10_go 4 = .ok (.invokevirtual 155, 3) := by decide +kernel
theorem dX10_go_7 : decode cX10_go 7 = .ok (.ifCond .ne 5, 3) := by decide +kernel
theorem dX10_go_10 : decode cX10_go 10 = .ok (.iconst (-1), 1) := by decide +kernel
theorem dX10_go_11 : decode cX10_go 11 = .ok (.ireturn, 1) := by decide +kernel
theorem dX10_go_12 : decode cX10_go 12 = .ok (.aload_n 0, 1) := by decide +kernel
theorem dX10_go_13 : decode cX10_go 13 = .ok (.getfield 32, 3) := by decide +kernel
theorem dX10_go_16 : decode cX10_go 16 = .ok (.aload_n 0, 1) := by decide +kernel
theorem dX10_go_17 : decode cX10_go 17 = .ok (.getfield 39, 3) := by decide +kernel
theorem dX10_go_20 : decode cX10_go 20 = .ok (.iload_n 1, 1) := by decide +kernel
theorem dX10_go_21 : decode cX10_go 21 = .ok (.iload_n 2, 1) := by decide +kernel
theorem dX10_go_22 : decode cX10_go 22 = .ok (.iload_n 3, 1) := by decide +kernel
theorem dX10_go_23 : decode cX10_go 23 = .ok (.invokevirtual 171, 3) := by decide +kernel
theorem dX10_go_26 : decode cX10_go 26 = .ok (.istore 4, 2) := by decide +kernel
theorem dX10_go_28 : decode cX10_go 28 = .ok (.aload_n 0, 1) := by decide +kernel
theorem dX10_go_29 : decode cX10_go 29 = .ok (.getfield 46, 3) := by decide +kernel
theorem dX10_go_32 : decode cX10_go 32 = .ok (.aload_n 0, 1) := by decide +kernel
theorem dX10_go_33 : decode cX10_go 33 = .ok (.getfield 39, 3) := by decide +kernel
theorem dX10_go_36 : decode cX10_go 36 = .ok (.invokevirtual 175, 3) := by decide +kernel
theorem dX10_go_39 : decode cX10_go 39 = .ok (.iload 4, 2) := by decide +kernel
theorem dX10_go_41 : decode cX10_go 41 = .ok (.ifCond .eq 7, 3) := by decide +kernel
theorem dX10_go_44 : decode cX10_go 44 = .ok (.iconst 1, 1) := by decide +kernel
theorem dX10_go_45 : decode cX10_go 45 = .ok (.goto 4, 3) := by decide +kernel
theorem dX10_go_48 : decode cX10_go 48 = .ok (.iconst 0, 1) := by decide +kernel
theorem dX10_go_49 : decode cX10_go 49 = .ok (.ireturn, 1) := by decide +kernel
theorem dX10_breathe_0 : decode cX10_breathe 0 = .ok (.aload_n 0, 1) := by decide +kernel
theorem dX10_breathe_1 : decode cX10_breathe 1 = .ok (.iload_n 1, 1) := by decide +kernel
theorem dX10_breathe_2 : decode cX10_breathe 2 = .ok (.invokevirtual 143, 3) := by decide +kernel
theorem dX10_breathe_5 : decode cX10_breathe 5 = .ok (.ifCond .ne 5, 3) := by decide +kernel
theorem dX10_breathe_8 : decode cX10_breathe 8 = .ok (.iconst (-1), 1) := by decide +kernel
theorem dX10_breathe_9 : decode cX10_breathe 9 = .ok (.ireturn, 1) := by decide +kernel
theorem dX10_breathe_10 : decode cX10_breathe 10 = .ok (.aload_n 0, 1) := by decide +kernel
theorem dX10_breathe_11 : decode cX10_breathe 11 = .ok (.getfield 32, 3) := by decide +kernel
theorem dX10_breathe_14 : decode cX10_breathe 14 = .ok (.aload_n 0, 1) := by decide +kernel
theorem dX10_breathe_15 : decode cX10_breathe 15 = .ok (.getfield 39, 3) := by decide +kernel
theorem dX10_breathe_18 : decode cX10_breathe 18 = .ok (.iload_n 1, 1) := by decide +kernel
theorem dX10_breathe_19 : decode cX10_breathe 19 = .ok (.invokevirtual 178, 3) := by decide +kernel
theorem dX10_breathe_22 : decode cX10_breathe 22 = .ok (.aload_n 0, 1) := by decide +kernel
theorem dX10_breathe_23 : decode cX10_breathe 23 = .ok (.getfield 46, 3) := by decide +kernel
theorem dX10_breathe_26 : decode cX10_breathe 26 = .ok (.aload_n 0, 1) := by decide +kernel
theorem dX10_breathe_27 : decode cX10_breathe 27 = .ok (.getfield 39, 3) := by decide +kernel
theorem dX10_breathe_30 : decode cX10_breathe 30 = .ok (.invokevirtual 175, 3) := by decide +kernel
theorem dX10_breathe_33 : decode cX10_breathe 33 = .ok (.aload_n 0, 1) := by decide +kernel
theorem dX10_breathe_34 : decode cX10_breathe 34 = .ok (.getfield 39, 3) := by decide +kernel
theorem dX10_breathe_37 : decode cX10_breathe 37 = .ok (.getfield 146, 3) := by decide +kernel
theorem dX10_breathe_40 : decode cX10_breathe 40 = .ok (.iload_n 1, 1) := by decide +kernel
theorem dX10_breathe_41 : decode cX10_breathe 41 = .ok (.iaload, 1) := by decide +kernel
theorem dX10_breathe_42 : decode cX10_breathe 42 = .ok (.ireturn, 1) := by decide +kernel
theorem dX10_wave_0 : decode cX10_wave 0 = .ok (.iload_n 1, 1) := by decide +kernel
theorem dX10_wave_1 : decode cX10_wave 1 = .ok (.ifCond .lt 8, 3) := by decide +kernel
theorem dX10_wave_4 : decode cX10_wave 4 = .ok (.iload_n 1, 1) := by decide +kernel
theorem dX10_wave_5 : decode cX10_wave 5 = .ok (.iconst 4, 1) := by decide +kernel
theorem dX10_wave_6 : decode cX10_wave 6 = .ok (.if_icmp .lt 5, 3) := by decide +kernel
theorem dX10_wave_9 : decode cX10_wave 9 = .ok (.iconst (-1), 1) := by decide +kernel
theorem dX10_wave_10 : decode cX10_wave 10 = .ok (.ireturn, 1) := by decide +kernel
theorem dX10_wave_11 : decode cX10_wave 11 = .ok (.aload_n 0, 1) := by decide +kernel
theorem dX10_wave_12 : decode cX10_wave 12 = .ok (.getfield 32, 3) := by decide +kernel
theorem dX10_wave_15 : decode cX10_wave 15 = .ok (.aload_n 0, 1) := by decide +kernel
theorem dX10_wave_16 : decode cX10_wave 16 = .ok (.getfield 39, 3) := by decide +kernel
theorem dX10_wave_19 : decode cX10_wave 19 = .ok (.iload_n 1, 1) := by decide +kernel
theorem dX10_wave_20 : decode cX10_wave 20 = .ok (.invokevirtual 182, 3) := by decide +kernel
theorem dX10_wave_23 : decode cX10_wave 23 = .ok (.istore_n 2, 1) := by decide +kernel
theorem dX10_wave_24 : decode cX10_wave 24 = .ok (.aload_n 0, 1) := by decide +kernel
theorem dX10_wave_25 : decode cX10_wave 25 = .ok (.getfield 46, 3) := by decide +kernel
theorem dX10_wave_28 : decode cX10_wave 28 = .ok (.aload_n 0, 1) := by decide +kernel
theorem dX10_wave_29 : decode cX10_wave 29 = .ok (.getfield 39, 3) := by decide +kernel
theorem dX10_wave_32 : decode cX10_wave 32 = .ok (.invokevirtual 175, 3) := by decide +kernel
theorem dX10_wave_35 : decode cX10_wave 35 = .ok (.iload_n 2, 1) := by decide +kernel
theorem dX10_wave_36 : decode cX10_wave 36 = .ok (.ireturn, 1) := by decide +kernel
theorem dX10_party_0 : decode cX10_party 0 = .ok (.iload_n 1, 1) := by decide +kernel
theorem dX10_party_1 : decode cX10_party 1 = .ok (.ifCond .lt 9, 3) := by decide +kernel
theorem dX10_party_4 : decode cX10_party 4 = .ok (.iload_n 1, 1) := by decide +kernel
theorem dX10_party_5 : decode cX10_party 5 = .ok (.bipush 20, 2) := by decide +kernel
theorem dX10_party_7 : decode cX10_party 7 = .ok (.if_icmp .le 5, 3) := by decide +kernel
theorem dX10_party_10 : decode cX10_party 10 = .ok (.iconst (-1), 1) := by decide +kernel
theorem dX10_party_11 : decode cX10_party 11 = .ok (.ireturn, 1) := by decide +kernel
theorem dX10_party_12 : decode cX10_party 12 = .ok (.iconst 0, 1) := by decide +kernel
theorem dX10_party_13 : decode cX10_party 13 = .ok (.istore_n 2, 1) := by decide +kernel
theorem dX10_party_14 : decode cX10_party 14 = .ok (.iconst 0, 1) := by decide +kernel
theorem dX10_party_15 : decode cX10_party 15 = .ok (.istore_n 3, 1) := by decide +kernel
theorem dX10_party_16 : decode cX10_party 16 = .ok (.iload_n 3, 1) := by decide +kernel
theorem dX10_party_17 : decode cX10_party 17 = .ok (.iload_n 1, 1) := by decide +kernel
theorem dX10_party_18 : decode cX10_party 18 = .ok (.if_icmp .ge 23, 3) := by decide +kernel
theorem dX10_party_21 : decode cX10_party 21 = .ok (.iload_n 2, 1) := by decide +kernel
theorem dX10_party_22 : decode cX10_party 22 = .ok (.aload_n 0, 1) := by decide +kernel
theorem dX10_party_23 : decode cX10_party 23 = .ok (.getfield 32, 3) := by decide +kernel
theorem dX10_party_26 : decode cX10_party 26 = .ok (.aload_n 0, 1) := by decide +kernel
theorem dX10_party_27 : decode cX10_party 27 = .ok (.getfield 39, 3) := by decide +kernel
theorem dX10_party_30 : decode cX10_party 30 = .ok (.invokevirtual 186, 3) := by decide +kernel
theorem dX10_party_33 : decode cX10_party 33 = .ok (.iadd, 1) := by decide +kernel
theorem dX10_party_34 : decode cX10_party 34 = .ok (.istore_n 2, 1) := by decide +kernel
theorem dX10_party_35 : decode cX10_party 35 = .ok (.iinc 3 1, 3) := by decide +kernel
theorem dX10_party_38 : decode cX10_party 38 = .ok (.goto (-22), 3) := by decide +kernel
theorem dX10_party_41 : decode cX10_party 41 = .ok (.aload_n 0, 1) := by decide +kernel
theorem dX10_party_42 : decode cX10_party 42 = .ok (.getfield 46, 3) := by decide +kernel
theorem dX10_party_45 : decode cX10_party 45 = .ok (.aload_n 0, 1) := by decide +kernel
theorem dX10_party_46 : decode cX10_party 46 = .ok (.getfield 39, 3) := by decide +kernel
theorem dX10_party_49 : decode cX10_party 49 = .ok (.invokevirtual 175, 3) := by decide +kernel
theorem dX10_party_52 : decode cX10_party 52 = .ok (.iload_n 2, 1) := by decide +kernel
theorem dX10_party_53 : decode cX10_party 53 = .ok (.ireturn, 1) := by decide +kernel
theorem dX10_undo_0 : decode cX10_undo 0 = .ok (.aload_n 0, 1) := by decide +kernel
theorem dX10_undo_1 : decode cX10_undo 1 = .ok (.getfield 46, 3) := by decide +kernel
theorem dX10_undo_4 : decode cX10_undo 4 = .ok (.aload_n 0, 1) := by decide +kernel
theorem dX10_undo_5 : decode cX10_undo 5 = .ok (.getfield 39, 3) := by decide +kernel
theorem dX10_undo_8 : decode cX10_undo 8 = .ok (.invokevirtual 190, 3) := by decide +kernel
theorem dX10_undo_11 : decode cX10_undo 11 = .ok (.ireturn, 1) := by decide +kernel
theorem dX10_redo_0 : decode cX10_redo 0 = .ok (.aload_n 0, 1) := by decide +kernel
theorem dX10_redo_1 : decode cX10_redo 1 = .ok (.getfield 46, 3) := by decide +kernel
theorem dX10_redo_4 : decode cX10_redo 4 = .ok (.aload_n 0, 1) := by decide +kernel
theorem dX10_redo_5 : decode cX10_redo 5 = .ok (.getfield 39, 3) := by decide +kernel
theorem dX10_redo_8 : decode cX10_redo 8 = .ok (.invokevirtual 194, 3) := by decide +kernel
theorem dX10_redo_11 : decode cX10_redo 11 = .ok (.ireturn, 1) := by decide +kernel
theorem dX10_best_0 : decode cX10_best 0 = .ok (.aload_n 0, 1) := by decide +kernel
theorem dX10_best_1 : decode cX10_best 1 = .ok (.iload_n 1, 1) := by decide +kernel
theorem dX10_best_2 : decode cX10_best 2 = .ok (.invokevirtual 143, 3) := by decide +kernel
theorem dX10_best_5 : decode cX10_best 5 = .ok (.ifCond .eq 22, 3) := by decide +kernel
theorem dX10_best_8 : decode cX10_best 8 = .ok (.iload_n 2, 1) := by decide +kernel
theorem dX10_best_9 : decode cX10_best 9 = .ok (.ifCond .lt 18, 3) := by decide +kernel
theorem dX10_best_12 : decode cX10_best 12 = .ok (.iload_n 2, 1) := by decide +kernel
theorem dX10_best_13 : decode cX10_best 13 = .ok (.bipush 8, 2) := by decide +kernel
theorem dX10_best_15 : decode cX10_best 15 = .ok (.if_icmp .gt 12, 3) := by decide +kernel
theorem dX10_best_18 : decode cX10_best 18 = .ok (.iload_n 3, 1) := by decide +kernel
theorem dX10_best_19 : decode cX10_best 19 = .ok (.ifCond .lt 8, 3) := by decide +kernel
theorem dX10_best_22 : decode cX10_best 22 = .ok (.iload_n 3, 1) := by decide +kernel
theorem dX10_best_23 : decode cX10_best 23 = .ok (.iconst 2, 1) := by decide +kernel
theorem dX10_best_24 : decode cX10_best 24 = .ok (.if_icmp .le 5, 3) := by decide +kernel
theorem dX10_best_27 : decode cX10_best 27 = .ok (.iconst (-1), 1) := by decide +kernel
theorem dX10_best_28 : decode cX10_best 28 = .ok (.ireturn, 1) := by decide +kernel
theorem dX10_best_29 : decode cX10_best 29 = .ok (.aload_n 0, 1) := by decide +kernel
theorem dX10_best_30 : decode cX10_best 30 = .ok (.getfield 63, 3) := by decide +kernel
theorem dX10_best_33 : decode cX10_best 33 = .ok (.aload_n 0, 1) := by decide +kernel
theorem dX10_best_34 : decode cX10_best 34 = .ok (.getfield 39, 3) := by decide +kernel
theorem dX10_best_37 : decode cX10_best 37 = .ok (.iload_n 1, 1) := by decide +kernel
theorem dX10_best_38 : decode cX10_best 38 = .ok (.iload_n 2, 1) := by decide +kernel
theorem dX10_best_39 : decode cX10_best 39 = .ok (.invokevirtual 197, 3) := by decide +kernel
theorem dX10_best_42 : decode cX10_best 42 = .ok (.istore 4, 2) := by decide +kernel
theorem dX10_best_44 : decode cX10_best 44 = .ok (.aload_n 0, 1) := by decide +kernel
theorem dX10_best_45 : decode cX10_best 45 = .ok (.getfield 63, 3) := by decide +kernel
theorem dX10_best_48 : decode cX10_best 48 = .ok (.getfield 200, 3) := by decide +kernel
theorem dX10_best_51 : decode cX10_best 51 = .ok (.ifCond .eq 6, 3) := by decide +kernel
theorem dX10_best_54 : decode cX10_best 54 = .ok (.bipush (-2), 2) := by decide +kernel
theorem dX10_best_56 : decode cX10_best 56 = .ok (.ireturn, 1) := by decide +kernel
theorem dX10_best_57 : decode cX10_best 57 = .ok (.iload_n 3, 1) := by decide +kernel
theorem dX10_best_58 : decode cX10_best 58 = .ok (.ifCond .ne 6, 3) := by decide +kernel
theorem dX10_best_61 : decode cX10_best 61 = .ok (.iload 4, 2) := by decide +kernel
theorem dX10_best_63 : decode cX10_best 63 = .ok (.ireturn, 1) := by decide +kernel
theorem dX10_best_64 : decode cX10_best 64 = .ok (.iload_n 3, 1) := by decide +kernel
theorem dX10_best_65 : decode cX10_best 65 = .ok (.iconst 1, 1) := by decide +kernel
theorem dX10_best_66 : decode cX10_best 66 = .ok (.if_icmp .ne 25, 3) := by decide +kernel
theorem dX10_best_69 : decode cX10_best 69 = .ok (.aload_n 0, 1) := by decide +kernel
theorem dX10_best_70 : decode cX10_best 70 = .ok (.getfield 63, 3) := by decide +kernel
theorem dX10_best_73 : decode cX10_best 73 = .ok (.getfield 204, 3) := by decide +kernel
theorem dX10_best_76 : decode cX10_best 76 = .ok (.ifCond .lt 13, 3) := by decide +kernel
theorem dX10_best_79 : decode cX10_best 79 = .ok (.aload_n 0, 1) := by decide +kernel
theorem dX10_best_80 : decode cX10_best 80 = .ok (.getfield 63, 3) := by decide +kernel
theorem dX10_best_83 : decode cX10_best 83 = .ok (.getfield 204, 3) := by decide +kernel
theorem dX10_best_86 : decode cX10_best 86 = .ok (.goto 4, 3) := by decide +kernel
theorem dX10_best_89 : decode cX10_best 89 = .ok (.iconst (-1), 1) := by decide +kernel
theorem dX10_best_90 : decode cX10_best 90 = .ok (.ireturn, 1) := by decide +kernel
theorem dX10_best_91 : decode cX10_best 91 = .ok (.aload_n 0, 1) := by decide +kernel
theorem dX10_best_92 : decode cX10_best 92 = .ok (.getfield 63, 3) := by decide +kernel
theorem dX10_best_95 : decode cX10_best 95 = .ok (.getfield 204, 3) := by decide +kernel
theorem dX10_best_98 : decode cX10_best 98 = .ok (.bipush (-2), 2) := by decide +kernel
theorem dX10_best_100 : decode cX10_best 100 = .ok (.if_icmp .ne 7, 3) := by decide +kernel
theorem dX10_best_103 : decode cX10_best 103 = .ok (.iconst 1, 1) := by decide +kernel
theorem dX10_best_104 : decode cX10_best 104 = .ok (.goto 4, 3) := by decide +kernel
theorem dX10_best_107 : decode cX10_best 107 = .ok (.iconst 0, 1) := by decide +kernel
theorem dX10_best_108 : decode cX10_best 108 = .ok (.ireturn, 1) := by decide +kernel
theorem dX10_match_0 : decode cX10_match 0 = .ok (.aload_n 0, 1) := by decide +kernel
theorem dX10_match_1 : decode cX10_match 1 = .ok (.getfield 32, 3) := by decide +kernel
theorem dX10_match_4 : decode cX10_match 4 = .ok (.getfield 87, 3) := by decide +kernel
theorem dX10_match_7 : decode cX10_match 7 = .ok (.getfield 207, 3) := by decide +kernel
theorem dX10_match_10 : decode cX10_match 10 = .ok (.iconst 2, 1) := by decide +kernel
theorem dX10_match_11 : decode cX10_match 11 = .ok (.if_icmp .lt 19, 3) := by decide +kernel
theorem dX10_match_14 : decode cX10_match 14 = .ok (.aload_n 0, 1) := by decide +kernel
theorem dX10_match_15 : decode cX10_match 15 = .ok (.iload_n 1, 1) := by decide +kernel
theorem dX10_match_16 : decode cX10_match 16 = .ok (.invokevirtual 210, 3) := by decide +kernel
theorem dX10_match_19 : decode cX10_match 19 = .ok (.ifCond .eq 11, 3) := by decide +kernel
theorem dX10_match_22 : decode cX10_match 22 = .ok (.aload_n 0, 1) := by decide +kernel
theorem dX10_match_23 : decode cX10_match 23 = .ok (.iload_n 2, 1) := by decide +kernel
theorem dX10_match_24 : decode cX10_match 24 = .ok (.invokevirtual 210, 3) := by decide +kernel
theorem dX10_match_27 : decode cX10_match 27 = .ok (.ifCond .ne 6, 3) := by decide +kernel
theorem dX10_match_30 : decode cX10_match 30 = .ok (.ldc 213, 2) := by decide +kernel
theorem dX10_match_32 : decode cX10_match 32 = .ok (.ireturn, 1) := by decide +kernel
theorem dX10_match_33 : decode cX10_match 33 = .ok (.aload_n 0, 1) := by decide +kernel
theorem dX10_match_34 : decode cX10_match 34 = .ok (.getfield 70, 3) := by decide +kernel
theorem dX10_match_37 : decode cX10_match 37 = .ok (.aload_n 0, 1) := by decide +kernel
theorem dX10_match_38 : decode cX10_match 38 = .ok (.getfield 39, 3) := by decide +kernel
theorem dX10_match_41 : decode cX10_match 41 = .ok (.iload_n 1, 1) := by decide +kernel
theorem dX10_match_42 : decode cX10_match 42 = .ok (.iload_n 2, 1) := by decide +kernel
theorem dX10_match_43 : decode cX10_match 43 = .ok (.invokevirtual 214, 3) := by decide +kernel
theorem dX10_match_46 : decode cX10_match 46 = .ok (.ireturn, 1) := by decide +kernel
theorem dX10_reply_0 : decode cX10_reply 0 = .ok (.aload_n 0, 1) := by decide +kernel
theorem dX10_reply_1 : decode cX10_reply 1 = .ok (.getfield 32, 3) := by decide +kernel
theorem dX10_reply_4 : decode cX10_reply 4 = .ok (.getfield 87, 3) := by decide +kernel
theorem dX10_reply_7 : decode cX10_reply 7 = .ok (.getfield 207, 3) := by decide +kernel
theorem dX10_reply_10 : decode cX10_reply 10 = .ok (.iconst 2, 1) := by decide +kernel
theorem dX10_reply_11 : decode cX10_reply 11 = .ok (.if_icmp .lt 11, 3) := by decide +kernel
theorem dX10_reply_14 : decode cX10_reply 14 = .ok (.aload_n 0, 1) := by decide +kernel
theorem dX10_reply_15 : decode cX10_reply 15 = .ok (.iload_n 1, 1) := by decide +kernel
theorem dX10_reply_16 : decode cX10_reply 16 = .ok (.invokevirtual 210, 3) := by decide +kernel
theorem dX10_reply_19 : decode cX10_reply 19 = .ok (.ifCond .ne 5, 3) := by decide +kernel
theorem dX10_reply_22 : decode cX10_reply 22 = .ok (.iconst (-1), 1) := by decide +kernel
theorem dX10_reply_23 : decode cX10_reply 23 = .ok (.ireturn, 1) := by decide +kernel
theorem dX10_reply_24 : decode cX10_reply 24 = .ok (.iconst 0, 1) := by decide +kernel
theorem dX10_reply_25 : decode cX10_reply 25 = .ok (.istore_n 2, 1) := by decide +kernel
theorem dX10_reply_26 : decode cX10_reply 26 = .ok (.aload_n 0, 1) := by decide +kernel
theorem dX10_reply_27 : decode cX10_reply 27 = .ok (.getfield 70, 3) := by decide +kernel
theorem dX10_reply_30 : decode cX10_reply 30 = .ok (.aload_n 0, 1) := by decide +kernel
theorem dX10_reply_31 : decode cX10_reply 31 = .ok (.getfield 39, 3) := by decide +kernel
theorem dX10_reply_34 : decode cX10_reply 34 = .ok (.iconst 0, 1) := by decide +kernel
theorem dX10_reply_35 : decode cX10_reply 35 = .ok (.iload_n 1, 1) := by decide +kernel
theorem dX10_reply_36 : decode cX10_reply 36 = .ok (.invokevirtual 214, 3) := by decide +kernel
theorem dX10_reply_39 : decode cX10_reply 39 = .ok (.istore_n 3, 1) := by decide +kernel
theorem dX10_reply_40 : decode cX10_reply 40 = .ok (.iconst 1, 1) := by decide +kernel
theorem dX10_reply_41 : decode cX10_reply 41 = .ok (.istore 4, 2) := by decide +kernel
theorem dX10_reply_43 : decode cX10_reply 43 = .ok (.iload 4, 2) := by decide +kernel
theorem dX10_reply_45 : decode cX10_reply 45 = .ok (.aload_n 0, 1) := by decide +kernel
theorem dX10_reply_46 : decode cX10_reply 46 = .ok (.getfield 32, 3) := by decide +kernel
theorem dX10_reply_49 : decode cX10_reply 49 = .ok (.getfield 87, 3) := by decide +kernel
theorem dX10_reply_52 : decode cX10_reply 52 = .ok (.getfield 217, 3) := by decide +kernel
theorem dX10_reply_55 : decode cX10_reply 55 = .ok (.if_icmp .ge 37, 3) := by decide +kernel
theorem dX10_reply_58 : decode cX10_reply 58 = .ok (.aload_n 0, 1) := by decide +kernel
theorem dX10_reply_59 : decode cX10_reply 59 = .ok (.getfield 70, 3) := by decide +kernel
theorem dX10_reply_62 : decode cX10_reply 62 = .ok (.aload_n 0, 1) := by decide +kernel
theorem dX10_reply_63 : decode cX10_reply 63 = .ok (.getfield 39, 3) := by decide +kernel
theorem dX10_reply_66 : decode cX10_reply 66 = .ok (.iload 4, 2) := by decide +kernel
theorem dX10_reply_68 : decode cX10_reply 68 = .ok (.iload_n 1, 1) := by decide +kernel
theorem dX10_reply_69 : decode cX10_reply 69 = .ok (.invokevirtual 214, 3) := by decide +kernel
theorem dX10_reply_72 : decode cX10_reply 72 = .ok (.istore 5, 2) := by decide +kernel
theorem dX10_reply_74 : decode cX10_reply 74 = .ok (.iload 5, 2) := by decide +kernel
theorem dX10_reply_76 : decode cX10_reply 76 = .ok (.iload_n 3, 1) := by decide +kernel
theorem dX10_reply_77 : decode cX10_reply 77 = .ok (.if_icmp .le 9, 3) := by decide +kernel
theorem dX10_reply_80 : decode cX10_reply 80 = .ok (.iload 5, 2) := by decide +kernel
theorem dX10_reply_82 : decode cX10_reply 82 = .ok (.istore_n 3, 1) := by decide +kernel
theorem dX10_reply_83 : decode cX10_reply 83 = .ok (.iload 4, 2) := by decide +kernel
theorem dX10_reply_85 : decode cX10_reply 85 = .ok (.istore_n 2, 1) := by decide +kernel
theorem dX10_reply_86 : decode cX10_reply 86 = .ok (.iinc 4 1, 3) := by decide +kernel
theorem dX10_reply_89 : decode cX10_reply 89 = .ok (.goto (-46), 3) := by decide +kernel
theorem dX10_reply_92 : decode cX10_reply 92 = .ok (.iload_n 2, 1) := by decide +kernel
theorem dX10_reply_93 : decode cX10_reply 93 = .ok (.ireturn, 1) := by decide +kernel
theorem dX10_rests_0 : decode cX10_rests 0 = .ok (.aload_n 0, 1) := by decide +kernel
theorem dX10_rests_1 : decode cX10_rests 1 = .ok (.iconst 0, 1) := by decide +kernel
theorem dX10_rests_2 : decode cX10_rests 2 = .ok (.putfield 112, 3) := by decide +kernel
theorem dX10_rests_5 : decode cX10_rests 5 = .ok (.aload_n 0, 1) := by decide +kernel
theorem dX10_rests_6 : decode cX10_rests 6 = .ok (.getfield 32, 3) := by decide +kernel
theorem dX10_rests_9 : decode cX10_rests 9 = .ok (.getfield 87, 3) := by decide +kernel
theorem dX10_rests_12 : decode cX10_rests 12 = .ok (.getfield 207, 3) := by decide +kernel
theorem dX10_rests_15 : decode cX10_rests 15 = .ok (.iconst 2, 1) := by decide +kernel
theorem dX10_rests_16 : decode cX10_rests 16 = .ok (.if_icmp .ge 5, 3) := by decide +kernel
theorem dX10_rests_19 : decode cX10_rests 19 = .ok (.iconst 0, 1) := by decide +kernel
theorem dX10_rests_20 : decode cX10_rests 20 = .ok (.ireturn, 1) := by decide +kernel
theorem dX10_rests_21 : decode cX10_rests 21 = .ok (.aload_n 0, 1) := by decide +kernel
theorem dX10_rests_22 : decode cX10_rests 22 = .ok (.getfield 70, 3) := by decide +kernel
theorem dX10_rests_25 : decode cX10_rests 25 = .ok (.aload_n 0, 1) := by decide +kernel
theorem dX10_rests_26 : decode cX10_rests 26 = .ok (.getfield 39, 3) := by decide +kernel
theorem dX10_rests_29 : decode cX10_rests 29 = .ok (.invokevirtual 220, 3) := by decide +kernel
theorem dX10_rests_32 : decode cX10_rests 32 = .ok (.iconst 0, 1) := by decide +kernel
theorem dX10_rests_33 : decode cX10_rests 33 = .ok (.istore_n 1, 1) := by decide +kernel
theorem dX10_rests_34 : decode cX10_rests 34 = .ok (.iload_n 1, 1) := by decide +kernel
theorem dX10_rests_35 : decode cX10_rests 35 = .ok (.aload_n 0, 1) := by decide +kernel
theorem dX10_rests_36 : decode cX10_rests 36 = .ok (.getfield 32, 3) := by decide +kernel
theorem dX10_rests_39 : decode cX10_rests 39 = .ok (.getfield 87, 3) := by decide +kernel
theorem dX10_rests_42 : decode cX10_rests 42 = .ok (.getfield 217, 3) := by decide +kernel
theorem dX10_rests_45 : decode cX10_rests 45 = .ok (.if_icmp .ge 53, 3) := by decide +kernel
theorem dX10_rests_48 : decode cX10_rests 48 = .ok (.iconst 0, 1) := by decide +kernel
theorem dX10_rests_49 : decode cX10_rests 49 = .ok (.istore_n 2, 1) := by decide +kernel
theorem dX10_rests_50 : decode cX10_rests 50 = .ok (.iload_n 2, 1) := by decide +kernel
theorem dX10_rests_51 : decode cX10_rests 51 = .ok (.aload_n 0, 1) := by decide +kernel
theorem dX10_rests_52 : decode cX10_rests 52 = .ok (.getfield 32, 3) := by decide +kernel
theorem dX10_rests_55 : decode cX10_rests 55 = .ok (.getfield 87, 3) := by decide +kernel
theorem dX10_rests_58 : decode cX10_rests 58 = .ok (.getfield 217, 3) := by decide +kernel
theorem dX10_rests_61 : decode cX10_rests 61 = .ok (.if_icmp .ge 31, 3) := by decide +kernel
theorem dX10_rests_64 : decode cX10_rests 64 = .ok (.aload_n 0, 1) := by decide +kernel
theorem dX10_rests_65 : decode cX10_rests 65 = .ok (.getfield 70, 3) := by decide +kernel
theorem dX10_rests_68 : decode cX10_rests 68 = .ok (.iload_n 1, 1) := by decide +kernel
theorem dX10_rests_69 : decode cX10_rests 69 = .ok (.iload_n 2, 1) := by decide +kernel
theorem dX10_rests_70 : decode cX10_rests 70 = .ok (.invokevirtual 223, 3) := by decide +kernel
theorem dX10_rests_73 : decode cX10_rests 73 = .ok (.ifCond .eq 13, 3) := by decide +kernel
theorem dX10_rests_76 : decode cX10_rests 76 = .ok (.aload_n 0, 1) := by decide +kernel
theorem dX10_rests_77 : decode cX10_rests 77 = .ok (.bipush 10, 2) := by decide +kernel
theorem dX10_rests_79 : decode cX10_rests 79 = .ok (.iload_n 1, 1) := by decide +kernel
theorem dX10_rests_80 : decode cX10_rests 80 = .ok (.imul, 1) := by decide +kernel
theorem dX10_rests_81 : decode cX10_rests 81 = .ok (.iload_n 2, 1) := by decide +kernel
theorem dX10_rests_82 : decode cX10_rests 82 = .ok (.iadd, 1) := by decide +kernel
theorem dX10_rests_83 : decode cX10_rests 83 = .ok (.invokevirtual 227, 3) := by decide +kernel
theorem dX10_rests_86 : decode cX10_rests 86 = .ok (.iinc 2 1, 3) := by decide +kernel
theorem dX10_rests_89 : decode cX10_rests 89 = .ok (.goto (-39), 3) := by decide +kernel
theorem dX10_rests_92 : decode cX10_rests 92 = .ok (.iinc 1 1, 3) := by decide +kernel
theorem dX10_rests_95 : decode cX10_rests 95 = .ok (.goto (-61), 3) := by decide +kernel
theorem dX10_rests_98 : decode cX10_rests 98 = .ok (.aload_n 0, 1) := by decide +kernel
theorem dX10_rests_99 : decode cX10_rests 99 = .ok (.getfield 112, 3) := by decide +kernel
theorem dX10_rests_102 : decode cX10_rests 102 = .ok (.ireturn, 1) := by decide +kernel
theorem dX10_record_0 : decode cX10_record 0 = .ok (.aload_n 0, 1) := by decide +kernel
theorem dX10_record_1 : decode cX10_record 1 = .ok (.iload_n 1, 1) := by decide +kernel
theorem dX10_record_2 : decode cX10_record 2 = .ok (.invokevirtual 143, 3) := by decide +kernel
theorem dX10_record_5 : decode cX10_record 5 = .ok (.ifCond .eq 19, 3) := by decide +kernel
theorem dX10_record_8 : decode cX10_record 8 = .ok (.iload_n 2, 1) := by decide +kernel
theorem dX10_record_9 : decode cX10_record 9 = .ok (.invokestatic 230, 3) := by decide +kernel
theorem dX10_record_12 : decode cX10_record 12 = .ok (.ifCond .eq 12, 3) := by decide +kernel
theorem dX10_record_15 : decode cX10_record 15 = .ok (.iload_n 3, 1) := by decide +kernel
theorem dX10_record_16 : decode cX10_record 16 = .ok (.ifCond .lt 8, 3) := by decide +kernel
theorem dX10_record_19 : decode cX10_record 19 = .ok (.iload_n 3, 1) := by decide +kernel
theorem dX10_record_20 : decode cX10_record 20 = .ok (.iconst 3, 1) := by decide +kernel
theorem dX10_record_21 : decode cX10_record 21 = .ok (.if_icmp .lt 5, 3) := by decide +kernel
theorem dX10_record_24 : decode cX10_record 24 = .ok (.iconst (-1), 1) := by decide +kernel
theorem dX10_record_25 : decode cX10_record 25 = .ok (.ireturn, 1) := by decide +kernel
theorem dX10_record_26 : decode cX10_record 26 = .ok (.aload_n 0, 1) := by decide +kernel
theorem dX10_record_27 : decode cX10_record 27 = .ok (.getfield 39, 3) := by decide +kernel
theorem dX10_record_30 : decode cX10_record 30 = .ok (.getfield 233, 3) := by decide +kernel
theorem dX10_record_33 : decode cX10_record 33 = .ok (.iload_n 1, 1) := by decide +kernel
theorem dX10_record_34 : decode cX10_record 34 = .ok (.iload_n 2, 1) := by decide +kernel
theorem dX10_record_35 : decode cX10_record 35 = .ok (.invokestatic 236, 3) := by decide +kernel
theorem dX10_record_38 : decode cX10_record 38 = .ok (.iload_n 3, 1) := by decide +kernel
theorem dX10_record_39 : decode cX10_record 39 = .ok (.iadd, 1) := by decide +kernel
theorem dX10_record_40 : decode cX10_record 40 = .ok (.iaload, 1) := by decide +kernel
theorem dX10_record_41 : decode cX10_record 41 = .ok (.ireturn, 1) := by decide +kernel
theorem dX10_easier_0 : decode cX10_easier 0 = .ok (.aload_n 0, 1) := by decide +kernel
theorem dX10_easier_1 : decode cX10_easier 1 = .ok (.iload_n 1, 1) := by decide +kernel
theorem dX10_easier_2 : decode cX10_easier 2 = .ok (.iload_n 2, 1) := by decide +kernel
theorem dX10_easier_3 : decode cX10_easier 3 = .ok (.iconst 0, 1) := by decide +kernel
theorem dX10_easier_4 : decode cX10_easier 4 = .ok (.invokevirtual 155, 3) := by decide +kernel
theorem dX10_easier_7 : decode cX10_easier 7 = .ok (.ifCond .ne 5, 3) := by decide +kernel
theorem dX10_easier_10 : decode cX10_easier 10 = .ok (.iconst (-1), 1) := by decide +kernel
theorem dX10_easier_11 : decode cX10_easier 11 = .ok (.ireturn, 1) := by decide +kernel
theorem dX10_easier_12 : decode cX10_easier 12 = .ok (.aload_n 0, 1) := by decide +kernel
theorem dX10_easier_13 : decode cX10_easier 13 = .ok (.getfield 32, 3) := by decide +kernel
theorem dX10_easier_16 : decode cX10_easier 16 = .ok (.aload_n 0, 1) := by decide +kernel
theorem dX10_easier_17 : decode cX10_easier 17 = .ok (.getfield 39, 3) := by decide +kernel
theorem dX10_easier_20 : decode cX10_easier 20 = .ok (.iload_n 1, 1) := by decide +kernel
theorem dX10_easier_21 : decode cX10_easier 21 = .ok (.iload_n 2, 1) := by decide +kernel
theorem dX10_easier_22 : decode cX10_easier 22 = .ok (.iconst 0, 1) := by decide +kernel
theorem dX10_easier_23 : decode cX10_easier 23 = .ok (.invokevirtual 159, 3) := by decide +kernel
theorem dX10_easier_26 : decode cX10_easier 26 = .ok (.istore_n 3, 1) := by decide +kernel
theorem dX10_easier_27 : decode cX10_easier 27 = .ok (.iconst 0, 1) := by decide +kernel
theorem dX10_easier_28 : decode cX10_easier 28 = .ok (.istore 4, 2) := by decide +kernel
theorem dX10_easier_30 : decode cX10_easier 30 = .ok (.iconst 0, 1) := by decide +kernel
theorem dX10_easier_31 : decode cX10_easier 31 = .ok (.istore 5, 2) := by decide +kernel
theorem dX10_easier_33 : decode cX10_easier 33 = .ok (.iload 5, 2) := by decide +kernel
theorem dX10_easier_35 : decode cX10_easier 35 = .ok (.aload_n 0, 1) := by decide +kernel
theorem dX10_easier_36 : decode cX10_easier 36 = .ok (.getfield 32, 3) := by decide +kernel
theorem dX10_easier_39 : decode cX10_easier 39 = .ok (.getfield 87, 3) := by decide +kernel
theorem dX10_easier_42 : decode cX10_easier 42 = .ok (.getfield 115, 3) := by decide +kernel
theorem dX10_easier_45 : decode cX10_easier 45 = .ok (.if_icmp .ge 49, 3) := by decide +kernel
theorem dX10_easier_48 : decode cX10_easier 48 = .ok (.aload_n 0, 1) := by decide +kernel
theorem dX10_easier_49 : decode cX10_easier 49 = .ok (.getfield 32, 3) := by decide +kernel
theorem dX10_easier_52 : decode cX10_easier 52 = .ok (.aload_n 0, 1) := by decide +kernel
theorem dX10_easier_53 : decode cX10_easier 53 = .ok (.getfield 39, 3) := by decide +kernel
theorem dX10_easier_56 : decode cX10_easier 56 = .ok (.iload_n 1, 1) := by decide +kernel
theorem dX10_easier_57 : decode cX10_easier 57 = .ok (.iload 5, 2) := by decide +kernel
theorem dX10_easier_59 : decode cX10_easier 59 = .ok (.iconst 0, 1) := by decide +kernel
theorem dX10_easier_60 : decode cX10_easier 60 = .ok (.invokevirtual 240, 3) := by decide +kernel
theorem dX10_easier_63 : decode cX10_easier 63 = .ok (.ifCond .eq 25, 3) := by decide +kernel
theorem dX10_easier_66 : decode cX10_easier 66 = .ok (.aload_n 0, 1) := by decide +kernel
theorem dX10_easier_67 : decode cX10_easier 67 = .ok (.getfield 32, 3) := by decide +kernel
theorem dX10_easier_70 : decode cX10_easier 70 = .ok (.aload_n 0, 1) := by decide +kernel
theorem dX10_easier_71 : decode cX10_easier 71 = .ok (.getfield 39, 3) := by decide +kernel
theorem dX10_easier_74 : decode cX10_easier 74 = .ok (.iload_n 1, 1) := by decide +kernel
theorem dX10_easier_75 : decode cX10_easier 75 = .ok (.iload 5, 2) := by decide +kernel
theorem dX10_easier_77 : decode cX10_easier 77 = .ok (.iconst 0, 1) := by decide +kernel
theorem dX10_easier_78 : decode cX10_easier 78 = .ok (.invokevirtual 159, 3) := by decide +kernel
theorem dX10_easier_81 : decode cX10_easier 81 = .ok (.iload_n 3, 1) := by decide +kernel
theorem dX10_easier_82 : decode cX10_easier 82 = .ok (.if_icmp .le 6, 3) := by decide +kernel
theorem dX10_easier_85 : decode cX10_easier 85 = .ok (.iinc 4 1, 3) := by decide +kernel
theorem dX10_easier_88 : decode cX10_easier 88 = .ok (.iinc 5 1, 3) := by decide +kernel
theorem dX10_easier_91 : decode cX10_easier 91 = .ok (.goto (-58), 3) := by decide +kernel
theorem dX10_easier_94 : decode cX10_easier 94 = .ok (.iload 4, 2) := by decide +kernel
theorem dX10_easier_96 : decode cX10_easier 96 = .ok (.ireturn, 1) := by decide +kernel
theorem dX10_seat_0 : decode cX10_seat 0 = .ok (.aload_n 0, 1) := by decide +kernel
theorem dX10_seat_1 : decode cX10_seat 1 = .ok (.iload_n 1, 1) := by decide +kernel
theorem dX10_seat_2 : decode cX10_seat 2 = .ok (.invokevirtual 143, 3) := by decide +kernel
theorem dX10_seat_5 : decode cX10_seat 5 = .ok (.ifCond .eq 19, 3) := by decide +kernel
theorem dX10_seat_8 : decode cX10_seat 8 = .ok (.iload_n 2, 1) := by decide +kernel
theorem dX10_seat_9 : decode cX10_seat 9 = .ok (.invokestatic 243, 3) := by decide +kernel
theorem dX10_seat_12 : decode cX10_seat 12 = .ok (.ifCond .eq 12, 3) := by decide +kernel
theorem dX10_seat_15 : decode cX10_seat 15 = .ok (.iload_n 3, 1) := by decide +kernel
theorem dX10_seat_16 : decode cX10_seat 16 = .ok (.ifCond .lt 8, 3) := by decide +kernel
theorem dX10_seat_19 : decode cX10_seat 19 = .ok (.iload_n 3, 1) := by decide +kernel
theorem dX10_seat_20 : decode cX10_seat 20 = .ok (.iconst 2, 1) := by decide +kernel
theorem dX10_seat_21 : decode cX10_seat 21 = .ok (.if_icmp .le 5, 3) := by decide +kernel
theorem dX10_seat_24 : decode cX10_seat 24 = .ok (.iconst (-1), 1) := by decide +kernel
theorem dX10_seat_25 : decode cX10_seat 25 = .ok (.ireturn, 1) := by decide +kernel
theorem dX10_seat_26 : decode cX10_seat 26 = .ok (.aload_n 0, 1) := by decide +kernel
theorem dX10_seat_27 : decode cX10_seat 27 = .ok (.getfield 70, 3) := by decide +kernel
theorem dX10_seat_30 : decode cX10_seat 30 = .ok (.aload_n 0, 1) := by decide +kernel
theorem dX10_seat_31 : decode cX10_seat 31 = .ok (.getfield 39, 3) := by decide +kernel
theorem dX10_seat_34 : decode cX10_seat 34 = .ok (.iload_n 1, 1) := by decide +kernel
theorem dX10_seat_35 : decode cX10_seat 35 = .ok (.iload_n 2, 1) := by decide +kernel
theorem dX10_seat_36 : decode cX10_seat 36 = .ok (.invokevirtual 246, 3) := by decide +kernel
theorem dX10_seat_39 : decode cX10_seat 39 = .ok (.iload_n 3, 1) := by decide +kernel
theorem dX10_seat_40 : decode cX10_seat 40 = .ok (.ifCond .ne 11, 3) := by decide +kernel
theorem dX10_seat_43 : decode cX10_seat 43 = .ok (.aload_n 0, 1) := by decide +kernel
theorem dX10_seat_44 : decode cX10_seat 44 = .ok (.getfield 70, 3) := by decide +kernel
theorem dX10_seat_47 : decode cX10_seat 47 = .ok (.getfield 250, 3) := by decide +kernel
theorem dX10_seat_50 : decode cX10_seat 50 = .ok (.ireturn, 1) := by decide +kernel
theorem dX10_seat_51 : decode cX10_seat 51 = .ok (.iload_n 3, 1) := by decide +kernel
theorem dX10_seat_52 : decode cX10_seat 52 = .ok (.iconst 1, 1) := by decide +kernel
theorem dX10_seat_53 : decode cX10_seat 53 = .ok (.if_icmp .ne 13, 3) := by decide +kernel
theorem dX10_seat_56 : decode cX10_seat 56 = .ok (.aload_n 0, 1) := by decide +kernel
theorem dX10_seat_57 : decode cX10_seat 57 = .ok (.getfield 70, 3) := by decide +kernel
theorem dX10_seat_60 : decode cX10_seat 60 = .ok (.getfield 253, 3) := by decide +kernel
theorem dX10_seat_63 : decode cX10_seat 63 = .ok (.goto 10, 3) := by decide +kernel
theorem dX10_seat_66 : decode cX10_seat 66 = .ok (.aload_n 0, 1) := by decide +kernel
theorem dX10_seat_67 : decode cX10_seat 67 = .ok (.getfield 70, 3) := by decide +kernel
theorem dX10_seat_70 : decode cX10_seat 70 = .ok (.getfield 256, 3) := by decide +kernel
theorem dX10_seat_73 : decode cX10_seat 73 = .ok (.ireturn, 1) := by decide +kernel
theorem dX10_order_0 : decode cX10_order 0 = .ok (.aload_n 0, 1) := by decide +kernel
theorem dX10_order_1 : decode cX10_order 1 = .ok (.iconst 0, 1) := by decide +kernel
theorem dX10_order_2 : decode cX10_order 2 = .ok (.putfield 112, 3) := by decide +kernel
theorem dX10_order_5 : decode cX10_order 5 = .ok (.iload_n 1, 1) := by decide +kernel
theorem dX10_order_6 : decode cX10_order 6 = .ok (.invokestatic 243, 3) := by decide +kernel
theorem dX10_order_9 : decode cX10_order 9 = .ok (.ifCond .ne 5, 3) := by decide +kernel
theorem dX10_order_12 : decode cX10_order 12 = .ok (.iconst (-1), 1) := by decide +kernel
theorem dX10_order_13 : decode cX10_order 13 = .ok (.ireturn, 1) := by decide +kernel
theorem dX10_order_14 : decode cX10_order 14 = .ok (.aload_n 0, 1) := by decide +kernel
theorem dX10_order_15 : decode cX10_order 15 = .ok (.getfield 70, 3) := by decide +kernel
theorem dX10_order_18 : decode cX10_order 18 = .ok (.aload_n 0, 1) := by decide +kernel
theorem dX10_order_19 : decode cX10_order 19 = .ok (.getfield 39, 3) := by decide +kernel
theorem dX10_order_22 : decode cX10_order 22 = .ok (.iload_n 1, 1) := by decide +kernel
theorem dX10_order_23 : decode cX10_order 23 = .ok (.invokevirtual 259, 3) := by decide +kernel
theorem dX10_order_26 : decode cX10_order 26 = .ok (.istore_n 2, 1) := by decide +kernel
theorem dX10_order_27 : decode cX10_order 27 = .ok (.aload_n 0, 1) := by decide +kernel
theorem dX10_order_28 : decode cX10_order 28 = .ok (.aload_n 0, 1) := by decide +kernel
theorem dX10_order_29 : decode cX10_order 29 = .ok (.getfield 70, 3) := by decide +kernel
theorem dX10_order_32 : decode cX10_order 32 = .ok (.getfield 262, 3) := by decide +kernel
theorem dX10_order_35 : decode cX10_order 35 = .ok (.aload_n 0, 1) := by decide +kernel
theorem dX10_order_36 : decode cX10_order 36 = .ok (.getfield 32, 3) := by decide +kernel
theorem dX10_order_39 : decode cX10_order 39 = .ok (.getfield 87, 3) := by decide +kernel
theorem dX10_order_42 : decode cX10_order 42 = .ok (.getfield 207, 3) := by decide +kernel
theorem dX10_order_45 : decode cX10_order 45 = .ok (.invokevirtual 265, 3) := by decide +kernel
theorem dX10_order_48 : decode cX10_order 48 = .ok (.iload_n 2, 1) := by decide +kernel
theorem dX10_order_49 : decode cX10_order 49 = .ok (.ireturn, 1) := by decide +kernel
theorem dX10_drives_0 : decode cX10_drives 0 = .ok (.aload_n 0, 1) := by decide +kernel
theorem dX10_drives_1 : decode cX10_drives 1 = .ok (.iconst 0, 1) := by decide +kernel
theorem dX10_drives_2 : decode cX10_drives 2 = .ok (.putfield 112, 3) := by decide +kernel
theorem dX10_drives_5 : decode cX10_drives 5 = .ok (.aload_n 0, 1) := by decide +kernel
theorem dX10_drives_6 : decode cX10_drives 6 = .ok (.iload_n 1, 1) := by decide +kernel
theorem dX10_drives_7 : decode cX10_drives 7 = .ok (.invokevirtual 143, 3) := by decide +kernel
theorem dX10_drives_10 : decode cX10_drives 10 = .ok (.ifCond .eq 24, 3) := by decide +kernel
theorem dX10_drives_13 : decode cX10_drives 13 = .ok (.aload_n 0, 1) := by decide +kernel
theorem dX10_drives_14 : decode cX10_drives 14 = .ok (.iload_n 2, 1) := by decide +kernel
theorem dX10_drives_15 : decode cX10_drives 15 = .ok (.invokevirtual 143, 3) := by decide +kernel
theorem dX10_drives_18 : decode cX10_drives 18 = .ok (.ifCond .eq 16, 3) := by decide +kernel
theorem dX10_drives_21 : decode cX10_drives 21 = .ok (.iload_n 1, 1) := by decide +kernel
theorem dX10_drives_22 : decode cX10_drives 22 = .ok (.iload_n 2, 1) := by decide +kernel
theorem dX10_drives_23 : decode cX10_drives 23 = .ok (.if_icmp .eq 11, 3) := by decide +kernel
theorem dX10_drives_26 : decode cX10_drives 26 = .ok (.aload_n 0, 1) := by decide +kernel
theorem dX10_drives_27 : decode cX10_drives 27 = .ok (.iload_n 3, 1) := by decide +kernel
theorem dX10_drives_28 : decode cX10_drives 28 = .ok (.invokevirtual 269, 3) := by decide +kernel
theorem dX10_drives_31 : decode cX10_drives 31 = .ok (.ifCond .ne 6, 3) := by decide +kernel
theorem dX10_drives_34 : decode cX10_drives 34 = .ok (.bipush (-2), 2) := by decide +kernel
theorem dX10_drives_36 : decode cX10_drives 36 = .ok (.ireturn, 1) := by decide +kernel
theorem dX10_drives_37 : decode cX10_drives 37 = .ok (.aload_n 0, 1) := by decide +kernel
theorem dX10_drives_38 : decode cX10_drives 38 = .ok (.getfield 63, 3) := by decide +kernel
theorem dX10_drives_41 : decode cX10_drives 41 = .ok (.aload_n 0, 1) := by decide +kernel
theorem dX10_drives_42 : decode cX10_drives 42 = .ok (.getfield 39, 3) := by decide +kernel
theorem dX10_drives_45 : decode cX10_drives 45 = .ok (.iload_n 1, 1) := by decide +kernel
theorem dX10_drives_46 : decode cX10_drives 46 = .ok (.iload_n 2, 1) := by decide +kernel
theorem dX10_drives_47 : decode cX10_drives 47 = .ok (.iload_n 3, 1) := by decide +kernel
theorem dX10_drives_48 : decode cX10_drives 48 = .ok (.invokevirtual 272, 3) := by decide +kernel
theorem dX10_drives_51 : decode cX10_drives 51 = .ok (.istore 4, 2) := by decide +kernel
theorem dX10_drives_53 : decode cX10_drives 53 = .ok (.aload_n 0, 1) := by decide +kernel
theorem dX10_drives_54 : decode cX10_drives 54 = .ok (.aload_n 0, 1) := by decide +kernel
theorem dX10_drives_55 : decode cX10_drives 55 = .ok (.getfield 63, 3) := by decide +kernel
theorem dX10_drives_58 : decode cX10_drives 58 = .ok (.getfield 275, 3) := by decide +kernel
theorem dX10_drives_61 : decode cX10_drives 61 = .ok (.iload 4, 2) := by decide +kernel
theorem dX10_drives_63 : decode cX10_drives 63 = .ok (.invokevirtual 265, 3) := by decide +kernel
theorem dX10_drives_66 : decode cX10_drives 66 = .ok (.iload 4, 2) := by decide +kernel
theorem dX10_drives_68 : decode cX10_drives 68 = .ok (.ireturn, 1) := by decide +kernel
theorem dX10_gone_0 : decode cX10_gone 0 = .ok (.aload_n 0, 1) := by decide +kernel
theorem dX10_gone_1 : decode cX10_gone 1 = .ok (.iload_n 1, 1) := by decide +kernel
theorem dX10_gone_2 : decode cX10_gone 2 = .ok (.invokevirtual 278, 3) := by decide +kernel
theorem dX10_gone_5 : decode cX10_gone 5 = .ok (.ifCond .eq 14, 3) := by decide +kernel
theorem dX10_gone_8 : decode cX10_gone 8 = .ok (.iload_n 1, 1) := by decide +kernel
theorem dX10_gone_9 : decode cX10_gone 9 = .ok (.aload_n 0, 1) := by decide +kernel
theorem dX10_gone_10 : decode cX10_gone 10 = .ok (.invokevirtual 281, 3) := by decide +kernel
theorem dX10_gone_13 : decode cX10_gone 13 = .ok (.iconst (-1), 1) := by decide +kernel
theorem dX10_gone_14 : decode cX10_gone 14 = .ok (.ixor, 1) := by decide +kernel
theorem dX10_gone_15 : decode cX10_gone 15 = .ok (.iand, 1) := by decide +kernel
theorem dX10_gone_16 : decode cX10_gone 16 = .ok (.ifCond .eq 6, 3) := by decide +kernel
theorem dX10_gone_19 : decode cX10_gone 19 = .ok (.bipush (-2), 2) := by decide +kernel
theorem dX10_gone_21 : decode cX10_gone 21 = .ok (.ireturn, 1) := by decide +kernel
theorem dX10_gone_22 : decode cX10_gone 22 = .ok (.aload_n 0, 1) := by decide +kernel
theorem dX10_gone_23 : decode cX10_gone 23 = .ok (.getfield 70, 3) := by decide +kernel
theorem dX10_gone_26 : decode cX10_gone 26 = .ok (.aload_n 0, 1) := by decide +kernel
theorem dX10_gone_27 : decode cX10_gone 27 = .ok (.getfield 39, 3) := by decide +kernel
theorem dX10_gone_30 : decode cX10_gone 30 = .ok (.iload_n 1, 1) := by decide +kernel
theorem dX10_gone_31 : decode cX10_gone 31 = .ok (.bipush 60, 2) := by decide +kernel
theorem dX10_gone_33 : decode cX10_gone 33 = .ok (.invokevirtual 285, 3) := by decide +kernel
theorem dX10_gone_36 : decode cX10_gone 36 = .ok (.ireturn, 1) := by decide +kernel
theorem dX10_provide_0 : decode cX10_provide 0 = .ok (.iload_n 1, 1) := by decide +kernel
theorem dX10_provide_1 : decode cX10_provide 1 = .ok (.iconst 1, 1) := by decide +kernel
theorem dX10_provide_2 : decode cX10_provide 2 = .ok (.if_icmp .lt 18, 3) := by decide +kernel
theorem dX10_provide_5 : decode cX10_provide 5 = .ok (.iload_n 1, 1) := by decide +kernel
theorem dX10_provide_6 : decode cX10_provide 6 = .ok (.bipush 60, 2) := by decide +kernel
theorem dX10_provide_8 : decode cX10_provide 8 = .ok (.if_icmp .gt 12, 3) := by decide +kernel
theorem dX10_provide_11 : decode cX10_provide 11 = .ok (.iload_n 2, 1) := by decide +kernel
theorem dX10_provide_12 : decode cX10_provide 12 = .ok (.ifCond .lt 8, 3) := by decide +kernel
theorem dX10_provide_15 : decode cX10_provide 15 = .ok (.iload_n 2, 1) := by decide +kernel
theorem dX10_provide_16 : decode cX10_provide 16 = .ok (.iconst 1, 1) := by decide +kernel
theorem dX10_provide_17 : decode cX10_provide 17 = .ok (.if_icmp .le 5, 3) := by decide +kernel
theorem dX10_provide_20 : decode cX10_provide 20 = .ok (.iconst (-1), 1) := by decide +kernel
theorem dX10_provide_21 : decode cX10_provide 21 = .ok (.ireturn, 1) := by decide +kernel
theorem dX10_provide_22 : decode cX10_provide 22 = .ok (.aload_n 0, 1) := by decide +kernel
theorem dX10_provide_23 : decode cX10_provide 23 = .ok (.invokevirtual 281, 3) := by decide +kernel
theorem dX10_provide_26 : decode cX10_provide 26 = .ok (.istore_n 3, 1) := by decide +kernel
theorem dX10_provide_27 : decode cX10_provide 27 = .ok (.iconst 1, 1) := by decide +kernel
theorem dX10_provide_28 : decode cX10_provide 28 = .ok (.istore 4, 2) := by decide +kernel
theorem dX10_provide_30 : decode cX10_provide 30 = .ok (.iload 4, 2) := by decide +kernel
theorem dX10_provide_32 : decode cX10_provide 32 = .ok (.aload_n 0, 1) := by decide +kernel
theorem dX10_provide_33 : decode cX10_provide 33 = .ok (.getfield 32, 3) := by decide +kernel
theorem dX10_provide_36 : decode cX10_provide 36 = .ok (.getfield 87, 3) := by decide +kernel
theorem dX10_provide_39 : decode cX10_provide 39 = .ok (.getfield 115, 3) := by decide +kernel
theorem dX10_provide_42 : decode cX10_provide 42 = .ok (.if_icmp .gt 85, 3) := by decide +kernel
theorem dX10_provide_45 : decode cX10_provide 45 = .ok (.iconst 1, 1) := by decide +kernel
theorem dX10_provide_46 : decode cX10_provide 46 = .ok (.istore 5, 2) := by decide +kernel
theorem dX10_provide_48 : decode cX10_provide 48 = .ok (.iload 5, 2) := by decide +kernel
theorem dX10_provide_50 : decode cX10_provide 50 = .ok (.iload_n 3, 1) := by decide +kernel
theorem dX10_provide_51 : decode cX10_provide 51 = .ok (.if_icmp .gt 70, 3) := by decide +kernel
theorem dX10_provide_54 : decode cX10_provide 54 = .ok (.iload 5, 2) := by decide +kernel
theorem dX10_provide_56 : decode cX10_provide 56 = .ok (.iload_n 3, 1) := by decide +kernel
theorem dX10_provide_57 : decode cX10_provide 57 = .ok (.iconst (-1), 1) := by decide +kernel
theorem dX10_provide_58 : decode cX10_provide 58 = .ok (.ixor, 1) := by decide +kernel
theorem dX10_provide_59 : decode cX10_provide 59 = .ok (.iand, 1) := by decide +kernel
theorem dX10_provide_60 : decode cX10_provide 60 = .ok (.ifCond .ne 17, 3) := by decide +kernel
theorem dX10_provide_63 : decode cX10_provide 63 = .ok (.iload 5, 2) := by decide +kernel
theorem dX10_provide_65 : decode cX10_provide 65 = .ok (.invokestatic 288, 3) := by decide +kernel
theorem dX10_provide_68 : decode cX10_provide 68 = .ok (.iload 4, 2) := by decide +kernel
theorem dX10_provide_70 : decode cX10_provide 70 = .ok (.if_icmp .ne 7, 3) := by decide +kernel
theorem dX10_provide_73 : decode cX10_provide 73 = .ok (.iconst 1, 1) := by decide +kernel
theorem dX10_provide_74 : decode cX10_provide 74 = .ok (.goto 4, 3) := by decide +kernel
theorem dX10_provide_77 : decode cX10_provide 77 = .ok (.iconst 0, 1) := by decide +kernel
theorem dX10_provide_78 : decode cX10_provide 78 = .ok (.istore 6, 2) := by decide +kernel
theorem dX10_provide_80 : decode cX10_provide 80 = .ok (.iload 6, 2) := by decide +kernel
theorem dX10_provide_82 : decode cX10_provide 82 = .ok (.ifCond .eq 33, 3) := by decide +kernel
theorem dX10_provide_85 : decode cX10_provide 85 = .ok (.aload_n 0, 1) := by decide +kernel
theorem dX10_provide_86 : decode cX10_provide 86 = .ok (.getfield 70, 3) := by decide +kernel
theorem dX10_provide_89 : decode cX10_provide 89 = .ok (.aload_n 0, 1) := by decide +kernel
theorem dX10_provide_90 : decode cX10_provide 90 = .ok (.getfield 39, 3) := by decide +kernel
theorem dX10_provide_93 : decode cX10_provide 93 = .ok (.iload 5, 2) := by decide +kernel
theorem dX10_provide_95 : decode cX10_provide 95 = .ok (.iload_n 1, 1) := by decide +kernel
theorem dX10_provide_96 : decode cX10_provide 96 = .ok (.invokevirtual 285, 3) := by decide +kernel
theorem dX10_provide_99 : decode cX10_provide 99 = .ok (.iconst (-1), 1) := by decide +kernel
theorem dX10_provide_100 : decode cX10_provide 100 = .ok (.if_icmp .ne 15, 3) := by decide +kernel
theorem dX10_provide_103 : decode cX10_provide 103 = .ok (.iload_n 2, 1) := by decide +kernel
theorem dX10_provide_104 : decode cX10_provide 104 = .ok (.ifCond .ne 8, 3) := by decide +kernel
theorem dX10_provide_107 : decode cX10_provide 107 = .ok (.iload 4, 2) := by decide +kernel
theorem dX10_provide_109 : decode cX10_provide 109 = .ok (.goto 5, 3) := by decide +kernel
theorem dX10_provide_112 : decode cX10_provide 112 = .ok (.iload 5, 2) := by decide +kernel
theorem dX10_provide_114 : decode cX10_provide 114 = .ok (.ireturn, 1) := by decide +kernel
theorem dX10_provide_115 : decode cX10_provide 115 = .ok (.iinc 5 1, 3) := by decide +kernel
theorem dX10_provide_118 : decode cX10_provide 118 = .ok (.goto (-70), 3) := by decide +kernel
theorem dX10_provide_121 : decode cX10_provide 121 = .ok (.iinc 4 1, 3) := by decide +kernel
theorem dX10_provide_124 : decode cX10_provide 124 = .ok (.goto (-94), 3) := by decide +kernel
theorem dX10_provide_127 : decode cX10_provide 127 = .ok (.iconst (-1), 1) := by decide +kernel
theorem dX10_provide_128 : decode cX10_provide 128 = .ok (.ireturn, 1) := by decide +kernel
theorem dX10_nearest_0 : decode cX10_nearest 0 = .ok (.aload_n 0, 1) := by decide +kernel
theorem dX10_nearest_1 : decode cX10_nearest 1 = .ok (.getfield 32, 3) := by decide +kernel
theorem dX10_nearest_4 : decode cX10_nearest 4 = .ok (.getfield 87, 3) := by decide +kernel
theorem dX10_nearest_7 : decode cX10_nearest 7 = .ok (.getfield 217, 3) := by decide +kernel
theorem dX10_nearest_10 : decode cX10_nearest 10 = .ok (.ifCond .eq 12, 3) := by decide +kernel
theorem dX10_nearest_13 : decode cX10_nearest 13 = .ok (.iload_n 1, 1) := by decide +kernel
theorem dX10_nearest_14 : decode cX10_nearest 14 = .ok (.ifCond .lt 8, 3) := by decide +kernel
theorem dX10_nearest_17 : decode cX10_nearest 17 = .ok (.iload_n 1, 1) := by decide +kernel
theorem dX10_nearest_18 : decode cX10_nearest 18 = .ok (.iconst 1, 1) := by decide +kernel
theorem dX10_nearest_19 : decode cX10_nearest 19 = .ok (.if_icmp .le 5, 3) := by decide +kernel
theorem dX10_nearest_22 : decode cX10_nearest 22 = .ok (.iconst (-1), 1) := by decide +kernel
theorem dX10_nearest_23 : decode cX10_nearest 23 = .ok (.ireturn, 1) := by decide +kernel
theorem dX10_nearest_24 : decode cX10_nearest 24 = .ok (.iconst 0, 1) := by decide +kernel
theorem dX10_nearest_25 : decode cX10_nearest 25 = .ok (.istore_n 3, 1) := by decide +kernel
theorem dX10_nearest_26 : decode cX10_nearest 26 = .ok (.aload_n 0, 1) := by decide +kernel
theorem dX10_nearest_27 : decode cX10_nearest 27 = .ok (.getfield 79, 3) := by decide +kernel
theorem dX10_nearest_30 : decode cX10_nearest 30 = .ok (.iconst 0, 1) := by decide +kernel
theorem dX10_nearest_31 : decode cX10_nearest 31 = .ok (.iload_n 2, 1) := by decide +kernel
theorem dX10_nearest_32 : decode cX10_nearest 32 = .ok (.invokevirtual 293, 3) := by decide +kernel
theorem dX10_nearest_35 : decode cX10_nearest 35 = .ok (.istore 4, 2) := by decide +kernel
theorem dX10_nearest_37 : decode cX10_nearest 37 = .ok (.iconst 1, 1) := by decide +kernel
theorem dX10_nearest_38 : decode cX10_nearest 38 = .ok (.istore 5, 2) := by decide +kernel
theorem dX10_nearest_40 : decode cX10_nearest 40 = .ok (.iload 5, 2) := by decide +kernel
theorem dX10_nearest_42 : decode cX10_nearest 42 = .ok (.aload_n 0, 1) := by decide +kernel
theorem dX10_nearest_43 : decode cX10_nearest 43 = .ok (.getfield 32, 3) := by decide +kernel
theorem dX10_nearest_46 : decode cX10_nearest 46 = .ok (.getfield 87, 3) := by decide +kernel
theorem dX10_nearest_49 : decode cX10_nearest 49 = .ok (.getfield 217, 3) := by decide +kernel
theorem dX10_nearest_52 : decode cX10_nearest 52 = .ok (.if_icmp .ge 35, 3) := by decide +kernel
theorem dX10_nearest_55 : decode cX10_nearest 55 = .ok (.aload_n 0, 1) := by decide +kernel
theorem dX10_nearest_56 : decode cX10_nearest 56 = .ok (.getfield 79, 3) := by decide +kernel
theorem dX10_nearest_59 : decode cX10_nearest 59 = .ok (.iload 5, 2) := by decide +kernel
theorem dX10_nearest_61 : decode cX10_nearest 61 = .ok (.iload_n 2, 1) := by decide +kernel
theorem dX10_nearest_62 : decode cX10_nearest 62 = .ok (.invokevirtual 293, 3) := by decide +kernel
theorem dX10_nearest_65 : decode cX10_nearest 65 = .ok (.istore 6, 2) := by decide +kernel
theorem dX10_nearest_67 : decode cX10_nearest 67 = .ok (.iload 6, 2) := by decide +kernel
theorem dX10_nearest_69 : decode cX10_nearest 69 = .ok (.iload 4, 2) := by decide +kernel
theorem dX10_nearest_71 : decode cX10_nearest 71 = .ok (.if_icmp .ge 10, 3) := by decide +kernel
theorem dX10_nearest_74 : decode cX10_nearest 74 = .ok (.iload 6, 2) := by decide +kernel
theorem dX10_nearest_76 : decode cX10_nearest 76 = .ok (.istore 4, 2) := by decide +kernel
theorem dX10_nearest_78 : decode cX10_nearest 78 = .ok (.iload 5, 2) := by decide +kernel
theorem dX10_nearest_80 : decode cX10_nearest 80 = .ok (.istore_n 3, 1) := by decide +kernel
theorem dX10_nearest_81 : decode cX10_nearest 81 = .ok (.iinc 5 1, 3) := by decide +kernel
theorem dX10_nearest_84 : decode cX10_nearest 84 = .ok (.goto (-44), 3) := by decide +kernel
theorem dX10_nearest_87 : decode cX10_nearest 87 = .ok (.iload_n 1, 1) := by decide +kernel
theorem dX10_nearest_88 : decode cX10_nearest 88 = .ok (.ifCond .ne 7, 3) := by decide +kernel
theorem dX10_nearest_91 : decode cX10_nearest 91 = .ok (.iload_n 3, 1) := by decide +kernel
theorem dX10_nearest_92 : decode cX10_nearest 92 = .ok (.goto 5, 3) := by decide +kernel
theorem dX10_nearest_95 : decode cX10_nearest 95 = .ok (.iload 4, 2) := by decide +kernel
theorem dX10_nearest_97 : decode cX10_nearest 97 = .ok (.ireturn, 1) := by decide +kernel
theorem dX10_waves_0 : decode cX10_waves 0 = .ok (.aload_n 0, 1) := by decide +kernel
theorem dX10_waves_1 : decode cX10_waves 1 = .ok (.iconst 0, 1) := by decide +kernel
theorem dX10_waves_2 : decode cX10_waves 2 = .ok (.putfield 112, 3) := by decide +kernel
theorem dX10_waves_5 : decode cX10_waves 5 = .ok (.aload_n 0, 1) := by decide +kernel
theorem dX10_waves_6 : decode cX10_waves 6 = .ok (.iload_n 1, 1) := by decide +kernel
theorem dX10_waves_7 : decode cX10_waves 7 = .ok (.invokevirtual 269, 3) := by decide +kernel
theorem dX10_waves_10 : decode cX10_waves 10 = .ok (.ifCond .eq 18, 3) := by decide +kernel
theorem dX10_waves_13 : decode cX10_waves 13 = .ok (.aload_n 0, 1) := by decide +kernel
theorem dX10_waves_14 : decode cX10_waves 14 = .ok (.getfield 32, 3) := by decide +kernel
theorem dX10_waves_17 : decode cX10_waves 17 = .ok (.getfield 87, 3) := by decide +kernel
theorem dX10_waves_20 : decode cX10_waves 20 = .ok (.iload_n 2, 1) := by decide +kernel
theorem dX10_waves_21 : decode cX10_waves 21 = .ok (.iload_n 3, 1) := by decide +kernel
theorem dX10_waves_22 : decode cX10_waves 22 = .ok (.invokevirtual 296, 3) := by decide +kernel
theorem dX10_waves_25 : decode cX10_waves 25 = .ok (.ifCond .ne 6, 3) := by decide +kernel
theorem dX10_waves_28 : decode cX10_waves 28 = .ok (.bipush (-2), 2) := by decide +kernel
theorem dX10_waves_30 : decode cX10_waves 30 = .ok (.ireturn, 1) := by decide +kernel
theorem dX10_waves_31 : decode cX10_waves 31 = .ok (.aload_n 0, 1) := by decide +kernel
theorem dX10_waves_32 : decode cX10_waves 32 = .ok (.getfield 63, 3) := by decide +kernel
theorem dX10_waves_35 : decode cX10_waves 35 = .ok (.aload_n 0, 1) := by decide +kernel
theorem dX10_waves_36 : decode cX10_waves 36 = .ok (.getfield 39, 3) := by decide +kernel
theorem dX10_waves_39 : decode cX10_waves 39 = .ok (.iload_n 1, 1) := by decide +kernel
theorem dX10_waves_40 : decode cX10_waves 40 = .ok (.iload_n 2, 1) := by decide +kernel
theorem dX10_waves_41 : decode cX10_waves 41 = .ok (.iload_n 3, 1) := by decide +kernel
theorem dX10_waves_42 : decode cX10_waves 42 = .ok (.invokevirtual 299, 3) := by decide +kernel
theorem dX10_waves_45 : decode cX10_waves 45 = .ok (.istore 4, 2) := by decide +kernel
theorem dX10_waves_47 : decode cX10_waves 47 = .ok (.aload_n 0, 1) := by decide +kernel
theorem dX10_waves_48 : decode cX10_waves 48 = .ok (.aload_n 0, 1) := by decide +kernel
theorem dX10_waves_49 : decode cX10_waves 49 = .ok (.getfield 63, 3) := by decide +kernel
theorem dX10_waves_52 : decode cX10_waves 52 = .ok (.getfield 275, 3) := by decide +kernel
theorem dX10_waves_55 : decode cX10_waves 55 = .ok (.iload 4, 2) := by decide +kernel
theorem dX10_waves_57 : decode cX10_waves 57 = .ok (.invokevirtual 265, 3) := by decide +kernel
theorem dX10_waves_60 : decode cX10_waves 60 = .ok (.iload 4, 2) := by decide +kernel
theorem dX10_waves_62 : decode cX10_waves 62 = .ok (.ireturn, 1) := by decide +kernel
theorem dX10_fill_0 : decode cX10_fill 0 = .ok (.aload_n 0, 1) := by decide +kernel
theorem dX10_fill_1 : decode cX10_fill 1 = .ok (.iload_n 1, 1) := by decide +kernel
theorem dX10_fill_2 : decode cX10_fill 2 = .ok (.invokevirtual 143, 3) := by decide +kernel
theorem dX10_fill_5 : decode cX10_fill 5 = .ok (.ifCond .eq 23, 3) := by decide +kernel
theorem dX10_fill_8 : decode cX10_fill 8 = .ok (.iload_n 2, 1) := by decide +kernel
theorem dX10_fill_9 : decode cX10_fill 9 = .ok (.ifCond .lt 19, 3) := by decide +kernel
theorem dX10_fill_12 : decode cX10_fill 12 = .ok (.iload_n 2, 1) := by decide +kernel
theorem dX10_fill_13 : decode cX10_fill 13 = .ok (.sipush 999, 3) := by decide +kernel
theorem dX10_fill_16 : decode cX10_fill 16 = .ok (.if_icmp .gt 12, 3) := by decide +kernel
theorem dX10_fill_19 : decode cX10_fill 19 = .ok (.iload_n 3, 1) := by decide +kernel
theorem dX10_fill_20 : decode cX10_fill 20 = .ok (.ifCond .lt 8, 3) := by decide +kernel
theorem dX10_fill_23 : decode cX10_fill 23 = .ok (.iload_n 3, 1) := by decide +kernel
theorem dX10_fill_24 : decode cX10_fill 24 = .ok (.iconst 1, 1) := by decide +kernel
theorem dX10_fill_25 : decode cX10_fill 25 = .ok (.if_icmp .le 5, 3) := by decide +kernel
theorem dX10_fill_28 : decode cX10_fill 28 = .ok (.iconst (-1), 1) := by decide +kernel
theorem dX10_fill_29 : decode cX10_fill 29 = .ok (.ireturn, 1) := by decide +kernel
theorem dX10_fill_30 : decode cX10_fill 30 = .ok (.aload_n 0, 1) := by decide +kernel
theorem dX10_fill_31 : decode cX10_fill 31 = .ok (.getfield 70, 3) := by decide +kernel
theorem dX10_fill_34 : decode cX10_fill 34 = .ok (.aload_n 0, 1) := by decide +kernel
theorem dX10_fill_35 : decode cX10_fill 35 = .ok (.getfield 39, 3) := by decide +kernel
theorem dX10_fill_38 : decode cX10_fill 38 = .ok (.iload_n 1, 1) := by decide +kernel
theorem dX10_fill_39 : decode cX10_fill 39 = .ok (.aload_n 0, 1) := by decide +kernel
theorem dX10_fill_40 : decode cX10_fill 40 = .ok (.invokevirtual 281, 3) := by decide +kernel
theorem dX10_fill_43 : decode cX10_fill 43 = .ok (.iload_n 2, 1) := by decide +kernel
theorem dX10_fill_44 : decode cX10_fill 44 = .ok (.invokevirtual 302, 3) := by decide +kernel
theorem dX10_fill_47 : decode cX10_fill 47 = .ok (.iload_n 3, 1) := by decide +kernel
theorem dX10_fill_48 : decode cX10_fill 48 = .ok (.ifCond .ne 13, 3) := by decide +kernel
theorem dX10_fill_51 : decode cX10_fill 51 = .ok (.aload_n 0, 1) := by decide +kernel
theorem dX10_fill_52 : decode cX10_fill 52 = .ok (.getfield 70, 3) := by decide +kernel
theorem dX10_fill_55 : decode cX10_fill 55 = .ok (.getfield 306, 3) := by decide +kernel
theorem dX10_fill_58 : decode cX10_fill 58 = .ok (.goto 10, 3) := by decide +kernel
theorem dX10_fill_61 : decode cX10_fill 61 = .ok (.aload_n 0, 1) := by decide +kernel
theorem dX10_fill_62 : decode cX10_fill 62 = .ok (.getfield 70, 3) := by decide +kernel
theorem dX10_fill_65 : decode cX10_fill 65 = .ok (.getfield 309, 3) := by decide +kernel
theorem dX10_fill_68 : decode cX10_fill 68 = .ok (.ireturn, 1) := by decide +kernel
theorem dX10_coin_0 : decode cX10_coin 0 = .ok (.aload_n 0, 1) := by decide +kernel
theorem dX10_coin_1 : decode cX10_coin 1 = .ok (.iload_n 1, 1) := by decide +kernel
theorem dX10_coin_2 : decode cX10_coin 2 = .ok (.invokevirtual 124, 3) := by decide +kernel
theorem dX10_coin_5 : decode cX10_coin 5 = .ok (.ifCond .eq 12, 3) := by decide +kernel
theorem dX10_coin_8 : decode cX10_coin 8 = .ok (.iload_n 2, 1) := by decide +kernel
theorem dX10_coin_9 : decode cX10_coin 9 = .ok (.ifCond .lt 8, 3) := by decide +kernel
theorem dX10_coin_12 : decode cX10_coin 12 = .ok (.iload_n 2, 1) := by decide +kernel
theorem dX10_coin_13 : decode cX10_coin 13 = .ok (.iconst 1, 1) := by decide +kernel
theorem dX10_coin_14 : decode cX10_coin 14 = .ok (.if_icmp .le 5, 3) := by decide +kernel
theorem dX10_coin_17 : decode cX10_coin 17 = .ok (.iconst (-1), 1) := by decide +kernel
theorem dX10_coin_18 : decode cX10_coin 18 = .ok (.ireturn, 1) := by decide +kernel
theorem dX10_coin_19 : decode cX10_coin 19 = .ok (.iconst 0, 1) := by decide +kernel
theorem dX10_coin_20 : decode cX10_coin 20 = .ok (.istore_n 3, 1) := by decide +kernel
theorem dX10_coin_21 : decode cX10_coin 21 = .ok (.iconst 0, 1) := by decide +kernel
theorem dX10_coin_22 : decode cX10_coin 22 = .ok (.istore 4, 2) := by decide +kernel
theorem dX10_coin_24 : decode cX10_coin 24 = .ok (.iload 4, 2) := by decide +kernel
theorem dX10_coin_26 : decode cX10_coin 26 = .ok (.aload_n 0, 1) := by decide +kernel
theorem dX10_coin_27 : decode cX10_coin 27 = .ok (.getfield 32, 3) := by decide +kernel
theorem dX10_coin_30 : decode cX10_coin 30 = .ok (.getfield 87, 3) := by decide +kernel
theorem dX10_coin_33 : decode cX10_coin 33 = .ok (.getfield 115, 3) := by decide +kernel
theorem dX10_coin_36 : decode cX10_coin 36 = .ok (.if_icmp .ge 34, 3) := by decide +kernel
theorem dX10_coin_39 : decode cX10_coin 39 = .ok (.aload_n 0, 1) := by decide +kernel
theorem dX10_coin_40 : decode cX10_coin 40 = .ok (.iload 4, 2) := by decide +kernel
theorem dX10_coin_42 : decode cX10_coin 42 = .ok (.invokevirtual 269, 3) := by decide +kernel
theorem dX10_coin_45 : decode cX10_coin 45 = .ok (.ifCond .eq 19, 3) := by decide +kernel
theorem dX10_coin_48 : decode cX10_coin 48 = .ok (.iload_n 3, 1) := by decide +kernel
theorem dX10_coin_49 : decode cX10_coin 49 = .ok (.aload_n 0, 1) := by decide +kernel
theorem dX10_coin_50 : decode cX10_coin 50 = .ok (.getfield 32, 3) := by decide +kernel
theorem dX10_coin_53 : decode cX10_coin 53 = .ok (.getfield 87, 3) := by decide +kernel
theorem dX10_coin_56 : decode cX10_coin 56 = .ok (.getfield 312, 3) := by decide +kernel
theorem dX10_coin_59 : decode cX10_coin 59 = .ok (.iload 4, 2) := by decide +kernel
theorem dX10_coin_61 : decode cX10_coin 61 = .ok (.iaload, 1) := by decide +kernel
theorem dX10_coin_62 : decode cX10_coin 62 = .ok (.iadd, 1) := by decide +kernel
theorem dX10_coin_63 : decode cX10_coin 63 = .ok (.istore_n 3, 1) := by decide +kernel
theorem dX10_coin_64 : decode cX10_coin 64 = .ok (.iinc 4 1, 3) := by decide +kernel
theorem dX10_coin_67 : decode cX10_coin 67 = .ok (.goto (-43), 3) := by decide +kernel
theorem dX10_coin_70 : decode cX10_coin 70 = .ok (.aload_n 0, 1) := by decide +kernel
theorem dX10_coin_71 : decode cX10_coin 71 = .ok (.iload_n 1, 1) := by decide +kernel
theorem dX10_coin_72 : decode cX10_coin 72 = .ok (.invokevirtual 269, 3) := by decide +kernel
theorem dX10_coin_75 : decode cX10_coin 75 = .ok (.ifCond .eq 18, 3) := by decide +kernel
theorem dX10_coin_78 : decode cX10_coin 78 = .ok (.aload_n 0, 1) := by decide +kernel
theorem dX10_coin_79 : decode cX10_coin 79 = .ok (.getfield 32, 3) := by decide +kernel
theorem dX10_coin_82 : decode cX10_coin 82 = .ok (.getfield 87, 3) := by decide +kernel
theorem dX10_coin_85 : decode cX10_coin 85 = .ok (.getfield 312, 3) := by decide +kernel
theorem dX10_coin_88 : decode cX10_coin 88 = .ok (.iload_n 1, 1) := by decide +kernel
theorem dX10_coin_89 : decode cX10_coin 89 = .ok (.iaload, 1) := by decide +kernel
theorem dX10_coin_90 : decode cX10_coin 90 = .ok (.goto 4, 3) := by decide +kernel
theorem dX10_coin_93 : decode cX10_coin 93 = .ok (.iconst 0, 1) := by decide +kernel
theorem dX10_coin_94 : decode cX10_coin 94 = .ok (.istore 4, 2) := by decide +kernel
theorem dX10_coin_96 : decode cX10_coin 96 = .ok (.iload 4, 2) := by decide +kernel
theorem dX10_coin_98 : decode cX10_coin 98 = .ok (.ifCond .ne 5, 3) := by decide +kernel
theorem dX10_coin_101 : decode cX10_coin 101 = .ok (.iload_n 2, 1) := by decide +kernel
theorem dX10_coin_102 : decode cX10_coin 102 = .ok (.ireturn, 1) := by decide +kernel
theorem dX10_coin_103 : decode cX10_coin 103 = .ok (.iload_n 3, 1) := by decide +kernel
theorem dX10_coin_104 : decode cX10_coin 104 = .ok (.iload 4, 2) := by decide +kernel
theorem dX10_coin_106 : decode cX10_coin 106 = .ok (.invokestatic 315, 3) := by decide +kernel
theorem dX10_coin_109 : decode cX10_coin 109 = .ok (.istore 5, 2) := by decide +kernel
theorem dX10_coin_111 : decode cX10_coin 111 = .ok (.iload_n 2, 1) := by decide +kernel
theorem dX10_coin_112 : decode cX10_coin 112 = .ok (.ifCond .ne 8, 3) := by decide +kernel
theorem dX10_coin_115 : decode cX10_coin 115 = .ok (.iload 4, 2) := by decide +kernel
theorem dX10_coin_117 : decode cX10_coin 117 = .ok (.goto 4, 3) := by decide +kernel
theorem dX10_coin_120 : decode cX10_coin 120 = .ok (.iload_n 3, 1) := by decide +kernel
theorem dX10_coin_121 : decode cX10_coin 121 = .ok (.iconst 1, 1) := by decide +kernel
theorem dX10_coin_122 : decode cX10_coin 122 = .ok (.iload 5, 2) := by decide +kernel
theorem dX10_coin_124 : decode cX10_coin 124 = .ok (.invokestatic 318, 3) := by decide +kernel
theorem dX10_coin_127 : decode cX10_coin 127 = .ok (.idiv, 1) := by decide +kernel
theorem dX10_coin_128 : decode cX10_coin 128 = .ok (.ireturn, 1) := by decide +kernel
theorem dX10_commonDivisor_0 : decode cX10_commonDivisor 0 = .ok (.iload_n 1, 1) := by decide +kernel
theorem dX10_commonDivisor_1 : decode cX10_commonDivisor 1 = .ok (.istore_n 2, 1) := by decide +kernel
theorem dX10_commonDivisor_2 : decode cX10_commonDivisor 2 = .ok (.iload_n 2, 1) := by decide +kernel
theorem dX10_commonDivisor_3 : decode cX10_commonDivisor 3 = .ok (.iconst 1, 1) := by decide +kernel
theorem dX10_commonDivisor_4 : decode cX10_commonDivisor 4 = .ok (.if_icmp .le 23, 3) := by decide +kernel
theorem dX10_commonDivisor_7 : decode cX10_commonDivisor 7 = .ok (.iload_n 0, 1) := by decide +kernel
theorem dX10_commonDivisor_8 : decode cX10_commonDivisor 8 = .ok (.iload_n 2, 1) := by decide +kernel
theorem dX10_commonDivisor_9 : decode cX10_commonDivisor 9 = .ok (.irem, 1) := by decide +kernel
theorem dX10_commonDivisor_10 : decode cX10_commonDivisor 10 = .ok (.ifCond .ne 11, 3) := by decide +kernel
theorem dX10_commonDivisor_13 : decode cX10_commonDivisor 13 = .ok (.iload_n 1, 1) := by decide +kernel
theorem dX10_commonDivisor_14 : decode cX10_commonDivisor 14 = .ok (.iload_n 2, 1) := by decide +kernel
theorem dX10_commonDivisor_15 : decode cX10_commonDivisor 15 = .ok (.irem, 1) := by decide +kernel
theorem dX10_commonDivisor_16 : decode cX10_commonDivisor 16 = .ok (.ifCond .ne 5, 3) := by decide +kernel
theorem dX10_commonDivisor_19 : decode cX10_commonDivisor 19 = .ok (.iload_n 2, 1) := by decide +kernel
theorem dX10_commonDivisor_20 : decode cX10_commonDivisor 20 = .ok (.ireturn, 1) := by decide +kernel
theorem dX10_commonDivisor_21 : decode cX10_commonDivisor 21 = .ok (.iinc 2 (-1), 3) := by decide +kernel
theorem dX10_commonDivisor_24 : decode cX10_commonDivisor 24 = .ok (.goto (-22), 3) := by decide +kernel
theorem dX10_commonDivisor_27 : decode cX10_commonDivisor 27 = .ok (.iconst 1, 1) := by decide +kernel
theorem dX10_commonDivisor_28 : decode cX10_commonDivisor 28 = .ok (.ireturn, 1) := by decide +kernel
theorem dX10_lies_0 : decode cX10_lies 0 = .ok (.iload_n 1, 1) := by decide +kernel
theorem dX10_lies_1 : decode cX10_lies 1 = .ok (.ifCond .lt 20, 3) := by decide +kernel
theorem dX10_lies_4 : decode cX10_lies 4 = .ok (.iload_n 1, 1) := by decide +kernel
theorem dX10_lies_5 : decode cX10_lies 5 = .ok (.aload_n 0, 1) := by decide +kernel
theorem dX10_lies_6 : decode cX10_lies 6 = .ok (.getfield 112, 3) := by decide +kernel
theorem dX10_lies_9 : decode cX10_lies 9 = .ok (.if_icmp .ge 12, 3) := by decide +kernel
theorem dX10_lies_12 : decode cX10_lies 12 = .ok (.aload_n 0, 1) := by decide +kernel
theorem dX10_lies_13 : decode cX10_lies 13 = .ok (.getfield 83, 3) := by decide +kernel
theorem dX10_lies_16 : decode cX10_lies 16 = .ok (.iload_n 1, 1) := by decide +kernel
theorem dX10_lies_17 : decode cX10_lies 17 = .ok (.iaload, 1) := by decide +kernel
theorem dX10_lies_18 : decode cX10_lies 18 = .ok (.goto 4, 3) := by decide +kernel
theorem dX10_lies_21 : decode cX10_lies 21 = .ok (.iconst (-1), 1) := by decide +kernel
theorem dX10_lies_22 : decode cX10_lies 22 = .ok (.ireturn, 1) := by decide +kernel
theorem dX10_pick_0 : decode cX10_pick 0 = .ok (.aload_n 0, 1) := by decide +kernel
theorem dX10_pick_1 : decode cX10_pick 1 = .ok (.iload_n 1, 1) := by decide +kernel
theorem dX10_pick_2 : decode cX10_pick 2 = .ok (.invokevirtual 143, 3) := by decide +kernel
theorem dX10_pick_5 : decode cX10_pick 5 = .ok (.ifCond .eq 27, 3) := by decide +kernel
theorem dX10_pick_8 : decode cX10_pick 8 = .ok (.aload_n 0, 1) := by decide +kernel
theorem dX10_pick_9 : decode cX10_pick 9 = .ok (.iload_n 2, 1) := by decide +kernel
theorem dX10_pick_10 : decode cX10_pick 10 = .ok (.invokevirtual 278, 3) := by decide +kernel
theorem dX10_pick_13 : decode cX10_pick 13 = .ok (.ifCond .eq 19, 3) := by decide +kernel
theorem dX10_pick_16 : decode cX10_pick 16 = .ok (.aload_n 0, 1) := by decide +kernel
theorem dX10_pick_17 : decode cX10_pick 17 = .ok (.iload_n 3, 1) := by decide +kernel
theorem dX10_pick_18 : decode cX10_pick 18 = .ok (.invokevirtual 124, 3) := by decide +kernel
theorem dX10_pick_21 : decode cX10_pick 21 = .ok (.ifCond .eq 11, 3) := by decide +kernel
theorem dX10_pick_24 : decode cX10_pick 24 = .ok (.iload_n 2, 1) := by decide +kernel
theorem dX10_pick_25 : decode cX10_pick 25 = .ok (.iload_n 3, 1) := by decide +kernel
theorem dX10_pick_26 : decode cX10_pick 26 = .ok (.ishr, 1) := by decide +kernel
theorem dX10_pick_27 : decode cX10_pick 27 = .ok (.iconst 1, 1) := by decide +kernel
theorem dX10_pick_28 : decode cX10_pick 28 = .ok (.iand, 1) := by decide +kernel
theorem dX10_pick_29 : decode cX10_pick 29 = .ok (.ifCond .ne 5, 3) := by decide +kernel
theorem dX10_pick_32 : decode cX10_pick 32 = .ok (.iconst (-1), 1) := by decide +kernel
theorem dX10_pick_33 : decode cX10_pick 33 = .ok (.ireturn, 1) := by decide +kernel
theorem dX10_pick_34 : decode cX10_pick 34 = .ok (.aload_n 0, 1) := by decide +kernel
theorem dX10_pick_35 : decode cX10_pick 35 = .ok (.getfield 79, 3) := by decide +kernel
theorem dX10_pick_38 : decode cX10_pick 38 = .ok (.iload_n 1, 1) := by decide +kernel
theorem dX10_pick_39 : decode cX10_pick 39 = .ok (.iload_n 2, 1) := by decide +kernel
theorem dX10_pick_40 : decode cX10_pick 40 = .ok (.iload_n 3, 1) := by decide +kernel
theorem dX10_pick_41 : decode cX10_pick 41 = .ok (.aload_n 0, 1) := by decide +kernel
theorem dX10_pick_42 : decode cX10_pick 42 = .ok (.getfield 323, 3) := by decide +kernel
theorem dX10_pick_45 : decode cX10_pick 45 = .ok (.invokevirtual 326, 3) := by decide +kernel
theorem dX10_pick_48 : decode cX10_pick 48 = .ok (.ireturn, 1) := by decide +kernel
theorem dX10_untell_0 : decode cX10_untell 0 = .ok (.aload_n 0, 1) := by decide +kernel
theorem dX10_untell_1 : decode cX10_untell 1 = .ok (.getfield 79, 3) := by decide +kernel
theorem dX10_untell_4 : decode cX10_untell 4 = .ok (.iload_n 1, 1) := by decide +kernel
theorem dX10_untell_5 : decode cX10_untell 5 = .ok (.aload_n 0, 1) := by decide +kernel
theorem dX10_untell_6 : decode cX10_untell 6 = .ok (.getfield 323, 3) := by decide +kernel
theorem dX10_untell_9 : decode cX10_untell 9 = .ok (.invokevirtual 330, 3) := by decide +kernel
theorem dX10_untell_12 : decode cX10_untell 12 = .ok (.ireturn, 1) := by decide +kernel
theorem dX10_later_0 : decode cX10_later 0 = .ok (.iload_n 1, 1) := by decide +kernel
theorem dX10_later_1 : decode cX10_later 1 = .ok (.ifCond .lt 22, 3) := by decide +kernel
theorem dX10_later_4 : decode cX10_later 4 = .ok (.iload_n 1, 1) := by decide +kernel
theorem dX10_later_5 : decode cX10_later 5 = .ok (.sipush 1000, 3) := by decide +kernel
theorem dX10_later_8 : decode cX10_later 8 = .ok (.if_icmp .gt 15, 3) := by decide +kernel
theorem dX10_later_11 : decode cX10_later 11 = .ok (.aload_n 0, 1) := by decide +kernel
theorem dX10_later_12 : decode cX10_later 12 = .ok (.getfield 323, 3) := by decide +kernel
theorem dX10_later_15 : decode cX10_later 15 = .ok (.iload_n 1, 1) := by decide +kernel
theorem dX10_later_16 : decode cX10_later 16 = .ok (.iadd, 1) := by decide +kernel
theorem dX10_later_17 : decode cX10_later 17 = .ok (.ldc_w 333, 3) := by decide +kernel
theorem dX10_later_20 : decode cX10_later 20 = .ok (.if_icmp .le 5, 3) := by decide +kernel
theorem dX10_later_23 : decode cX10_later 23 = .ok (.iconst (-1), 1) := by decide +kernel
theorem dX10_later_24 : decode cX10_later 24 = .ok (.ireturn, 1) := by decide +kernel
theorem dX10_later_25 : decode cX10_later 25 = .ok (.aload_n 0, 1) := by decide +kernel
theorem dX10_later_26 : decode cX10_later 26 = .ok (.dup, 1) := by decide +kernel
theorem dX10_later_27 : decode cX10_later 27 = .ok (.getfield 323, 3) := by decide +kernel
theorem dX10_later_30 : decode cX10_later 30 = .ok (.iload_n 1, 1) := by decide +kernel
theorem dX10_later_31 : decode cX10_later 31 = .ok (.iadd, 1) := by decide +kernel
theorem dX10_later_32 : decode cX10_later 32 = .ok (.putfield 323, 3) := by decide +kernel
theorem dX10_later_35 : decode cX10_later 35 = .ok (.aload_n 0, 1) := by decide +kernel
theorem dX10_later_36 : decode cX10_later 36 = .ok (.getfield 323, 3) := by decide +kernel
theorem dX10_later_39 : decode cX10_later 39 = .ok (.ireturn, 1) := by decide +kernel
theorem dX10_fits_0 : decode cX10_fits 0 = .ok (.iconst 0, 1) := by decide +kernel
theorem dX10_fits_1 : decode cX10_fits 1 = .ok (.istore_n 2, 1) := by decide +kernel
theorem dX10_fits_2 : decode cX10_fits 2 = .ok (.iconst 0, 1) := by decide +kernel
theorem dX10_fits_3 : decode cX10_fits 3 = .ok (.istore_n 3, 1) := by decide +kernel
theorem dX10_fits_4 : decode cX10_fits 4 = .ok (.iload_n 3, 1) := by decide +kernel
theorem dX10_fits_5 : decode cX10_fits 5 = .ok (.aload_n 0, 1) := by decide +kernel
theorem dX10_fits_6 : decode cX10_fits 6 = .ok (.getfield 32, 3) := by decide +kernel
theorem dX10_fits_9 : decode cX10_fits 9 = .ok (.getfield 87, 3) := by decide +kernel
theorem dX10_fits_12 : decode cX10_fits 12 = .ok (.getfield 217, 3) := by decide +kernel
theorem dX10_fits_15 : decode cX10_fits 15 = .ok (.if_icmp .ge 27, 3) := by decide +kernel
theorem dX10_fits_18 : decode cX10_fits 18 = .ok (.aload_n 0, 1) := by decide +kernel
theorem dX10_fits_19 : decode cX10_fits 19 = .ok (.getfield 79, 3) := by decide +kernel
theorem dX10_fits_22 : decode cX10_fits 22 = .ok (.iload_n 3, 1) := by decide +kernel
theorem dX10_fits_23 : decode cX10_fits 23 = .ok (.iload_n 1, 1) := by decide +kernel
theorem dX10_fits_24 : decode cX10_fits 24 = .ok (.invokevirtual 293, 3) := by decide +kernel
theorem dX10_fits_27 : decode cX10_fits 27 = .ok (.ifCond .ne 9, 3) := by decide +kernel
theorem dX10_fits_30 : decode cX10_fits 30 = .ok (.iload_n 2, 1) := by decide +kernel
theorem dX10_fits_31 : decode cX10_fits 31 = .ok (.iconst 1, 1) := by decide +kernel
theorem dX10_fits_32 : decode cX10_fits 32 = .ok (.iload_n 3, 1) := by decide +kernel
theorem dX10_fits_33 : decode cX10_fits 33 = .ok (.ishl, 1) := by decide +kernel
theorem dX10_fits_34 : decode cX10_fits 34 = .ok (.ior, 1) := by decide +kernel
theorem dX10_fits_35 : decode cX10_fits 35 = .ok (.istore_n 2, 1) := by decide +kernel
theorem dX10_fits_36 : decode cX10_fits 36 = .ok (.iinc 3 1, 3) := by decide +kernel
theorem dX10_fits_39 : decode cX10_fits 39 = .ok (.goto (-35), 3) := by decide +kernel
theorem dX10_fits_42 : decode cX10_fits 42 = .ok (.iload_n 2, 1) := by decide +kernel
theorem dX10_fits_43 : decode cX10_fits 43 = .ok (.ireturn, 1) := by decide +kernel
theorem dX10_chance_0 : decode cX10_chance 0 = .ok (.aload_n 0, 1) := by decide +kernel
theorem dX10_chance_1 : decode cX10_chance 1 = .ok (.getfield 79, 3) := by decide +kernel
theorem dX10_chance_4 : decode cX10_chance 4 = .ok (.iload_n 1, 1) := by decide +kernel
theorem dX10_chance_5 : decode cX10_chance 5 = .ok (.invokevirtual 334, 3) := by decide +kernel
theorem dX10_chance_8 : decode cX10_chance 8 = .ok (.lreturn, 1) := by decide +kernel
theorem dX10_image_0 : decode cX10_image 0 = .ok (.iload_n 1, 1) := by decide +kernel
theorem dX10_image_1 : decode cX10_image 1 = .ok (.ifCond .lt 8, 3) := by decide +kernel
theorem dX10_image_4 : decode cX10_image 4 = .ok (.iload_n 1, 1) := by decide +kernel
theorem dX10_image_5 : decode cX10_image 5 = .ok (.iconst 3, 1) := by decide +kernel
theorem dX10_image_6 : decode cX10_image 6 = .ok (.if_icmp .lt 5, 3) := by decide +kernel
theorem dX10_image_9 : decode cX10_image 9 = .ok (.iconst (-1), 1) := by decide +kernel
theorem dX10_image_10 : decode cX10_image 10 = .ok (.ireturn, 1) := by decide +kernel
theorem dX10_image_11 : decode cX10_image 11 = .ok (.aload_n 0, 1) := by decide +kernel
theorem dX10_image_12 : decode cX10_image 12 = .ok (.getfield 50, 3) := by decide +kernel
theorem dX10_image_15 : decode cX10_image 15 = .ok (.iload_n 1, 1) := by decide +kernel
theorem dX10_image_16 : decode cX10_image 16 = .ok (.aaload, 1) := by decide +kernel
theorem dX10_image_17 : decode cX10_image 17 = .ok (.ifnonnull 16, 3) := by decide +kernel
theorem dX10_image_20 : decode cX10_image 20 = .ok (.aload_n 0, 1) := by decide +kernel
theorem dX10_image_21 : decode cX10_image 21 = .ok (.getfield 50, 3) := by decide +kernel
theorem dX10_image_24 : decode cX10_image 24 = .ok (.iload_n 1, 1) := by decide +kernel
theorem dX10_image_25 : decode cX10_image 25 = .ok (.new 36, 3) := by decide +kernel
theorem dX10_image_28 : decode cX10_image 28 = .ok (.dup, 1) := by decide +kernel
theorem dX10_image_29 : decode cX10_image 29 = .ok (.invokespecial 38, 3) := by decide +kernel
theorem dX10_image_32 : decode cX10_image 32 = .ok (.aastore, 1) := by decide +kernel
theorem dX10_image_33 : decode cX10_image 33 = .ok (.aload_n 0, 1) := by decide +kernel
theorem dX10_image_34 : decode cX10_image 34 = .ok (.getfield 50, 3) := by decide +kernel
theorem dX10_image_37 : decode cX10_image 37 = .ok (.iload_n 1, 1) := by decide +kernel
theorem dX10_image_38 : decode cX10_image 38 = .ok (.aaload, 1) := by decide +kernel
theorem dX10_image_39 : decode cX10_image 39 = .ok (.aload_n 0, 1) := by decide +kernel
theorem dX10_image_40 : decode cX10_image 40 = .ok (.getfield 39, 3) := by decide +kernel
theorem dX10_image_43 : decode cX10_image 43 = .ok (.invokevirtual 338, 3) := by decide +kernel
theorem dX10_image_46 : decode cX10_image 46 = .ok (.aload_n 0, 1) := by decide +kernel
theorem dX10_image_47 : decode cX10_image 47 = .ok (.getfield 54, 3) := by decide +kernel
theorem dX10_image_50 : decode cX10_image 50 = .ok (.iload_n 1, 1) := by decide +kernel
theorem dX10_image_51 : decode cX10_image 51 = .ok (.iconst 1, 1) := by decide +kernel
theorem dX10_image_52 : decode cX10_image 52 = .ok (.bastore, 1) := by decide +kernel
theorem dX10_image_53 : decode cX10_image 53 = .ok (.aload_n 0, 1) := by decide +kernel
theorem dX10_image_54 : decode cX10_image 54 = .ok (.invokevirtual 281, 3) := by decide +kernel
theorem dX10_image_57 : decode cX10_image 57 = .ok (.invokestatic 288, 3) := by decide +kernel
theorem dX10_image_60 : decode cX10_image 60 = .ok (.ireturn, 1) := by decide +kernel
theorem dX10_back_0 : decode cX10_back 0 = .ok (.iload_n 1, 1) := by decide +kernel
theorem dX10_back_1 : decode cX10_back 1 = .ok (.ifCond .lt 26, 3) := by decide +kernel
theorem dX10_back_4 : decode cX10_back 4 = .ok (.iload_n 1, 1) := by decide +kernel
theorem dX10_back_5 : decode cX10_back 5 = .ok (.iconst 3, 1) := by decide +kernel
theorem dX10_back_6 : decode cX10_back 6 = .ok (.if_icmp .ge 21, 3) := by decide +kernel
theorem dX10_back_9 : decode cX10_back 9 = .ok (.aload_n 0, 1) := by decide +kernel
theorem dX10_back_10 : decode cX10_back 10 = .ok (.getfield 54, 3) := by decide +kernel
theorem dX10_back_13 : decode cX10_back 13 = .ok (.iload_n 1, 1) := by decide +kernel
theorem dX10_back_14 : decode cX10_back 14 = .ok (.baload, 1) := by decide +kernel
theorem dX10_back_15 : decode cX10_back 15 = .ok (.ifCond .eq 12, 3) := by decide +kernel
theorem dX10_back_18 : decode cX10_back 18 = .ok (.aload_n 0, 1) := by decide +kernel
theorem dX10_back_19 : decode cX10_back 19 = .ok (.getfield 50, 3) := by decide +kernel
theorem dX10_back_22 : decode cX10_back 22 = .ok (.iload_n 1, 1) := by decide +kernel
theorem dX10_back_23 : decode cX10_back 23 = .ok (.aaload, 1) := by decide +kernel
theorem dX10_back_24 : decode cX10_back 24 = .ok (.ifnonnull 5, 3) := by decide +kernel
theorem dX10_back_27 : decode cX10_back 27 = .ok (.iconst (-1), 1) := by decide +kernel
theorem dX10_back_28 : decode cX10_back 28 = .ok (.ireturn, 1) := by decide +kernel
theorem dX10_back_29 : decode cX10_back 29 = .ok (.aload_n 0, 1) := by decide +kernel
theorem dX10_back_30 : decode cX10_back 30 = .ok (.getfield 39, 3) := by decide +kernel
theorem dX10_back_33 : decode cX10_back 33 = .ok (.aload_n 0, 1) := by decide +kernel
theorem dX10_back_34 : decode cX10_back 34 = .ok (.getfield 50, 3) := by decide +kernel
theorem dX10_back_37 : decode cX10_back 37 = .ok (.iload_n 1, 1) := by decide +kernel
theorem dX10_back_38 : decode cX10_back 38 = .ok (.aaload, 1) := by decide +kernel
theorem dX10_back_39 : decode cX10_back 39 = .ok (.invokevirtual 338, 3) := by decide +kernel
theorem dX10_back_42 : decode cX10_back 42 = .ok (.aload_n 0, 1) := by decide +kernel
theorem dX10_back_43 : decode cX10_back 43 = .ok (.getfield 46, 3) := by decide +kernel
theorem dX10_back_46 : decode cX10_back 46 = .ok (.aload_n 0, 1) := by decide +kernel
theorem dX10_back_47 : decode cX10_back 47 = .ok (.getfield 39, 3) := by decide +kernel
theorem dX10_back_50 : decode cX10_back 50 = .ok (.invokevirtual 93, 3) := by decide +kernel
theorem dX10_back_53 : decode cX10_back 53 = .ok (.aload_n 0, 1) := by decide +kernel
theorem dX10_back_54 : decode cX10_back 54 = .ok (.invokevirtual 281, 3) := by decide +kernel
theorem dX10_back_57 : decode cX10_back 57 = .ok (.invokestatic 288, 3) := by decide +kernel
theorem dX10_back_60 : decode cX10_back 60 = .ok (.ireturn, 1) := by decide +kernel
theorem dX10_about_0 : decode cX10_about 0 = .ok (.iload_n 1, 1) := by decide +kernel
theorem dX10_about_1 : decode cX10_about 1 = .ok (.tableswitch 195 0 13 #[71, 82, 93, 104, 112, 123, 134, 142, 150, 158, 166, 171, 176, 190], 71) := by decide +kernel
theorem dX10_about_72 : decode cX10_about 72 = .ok (.aload_n 0, 1) := by decide +kernel
theorem dX10_about_73 : decode cX10_about 73 = .ok (.getfield 32, 3) := by decide +kernel
theorem dX10_about_76 : decode cX10_about 76 = .ok (.getfield 87, 3) := by decide +kernel
theorem dX10_about_79 : decode cX10_about 79 = .ok (.getfield 341, 3) := by decide +kernel
theorem dX10_about_82 : decode cX10_about 82 = .ok (.ireturn, 1) := by decide +kernel
theorem dX10_about_83 : decode cX10_about 83 = .ok (.aload_n 0, 1) := by decide +kernel
theorem dX10_about_84 : decode cX10_about 84 = .ok (.getfield 32, 3) := by decide +kernel
theorem dX10_about_87 : decode cX10_about 87 = .ok (.getfield 87, 3) := by decide +kernel
theorem dX10_about_90 : decode cX10_about 90 = .ok (.getfield 344, 3) := by decide +kernel
theorem dX10_about_93 : decode cX10_about 93 = .ok (.ireturn, 1) := by decide +kernel
theorem dX10_about_94 : decode cX10_about 94 = .ok (.aload_n 0, 1) := by decide +kernel
theorem dX10_about_95 : decode cX10_about 95 = .ok (.getfield 32, 3) := by decide +kernel
theorem dX10_about_98 : decode cX10_about 98 = .ok (.getfield 87, 3) := by decide +kernel
theorem dX10_about_101 : decode cX10_about 101 = .ok (.getfield 115, 3) := by decide +kernel
theorem dX10_about_104 : decode cX10_about 104 = .ok (.ireturn, 1) := by decide +kernel
theorem dX10_about_105 : decode cX10_about 105 = .ok (.aload_n 0, 1) := by decide +kernel
theorem dX10_about_106 : decode cX10_about 106 = .ok (.invokevirtual 281, 3) := by decide +kernel
theorem dX10_about_109 : decode cX10_about 109 = .ok (.invokestatic 288, 3) := by decide +kernel
theorem dX10_about_112 : decode cX10_about 112 = .ok (.ireturn, 1) := by decide +kernel
theorem dX10_about_113 : decode cX10_about 113 = .ok (.aload_n 0, 1) := by decide +kernel
theorem dX10_about_114 : decode cX10_about 114 = .ok (.getfield 32, 3) := by decide +kernel
theorem dX10_about_117 : decode cX10_about 117 = .ok (.getfield 87, 3) := by decide +kernel
theorem dX10_about_120 : decode cX10_about 120 = .ok (.getfield 207, 3) := by decide +kernel
theorem dX10_about_123 : decode cX10_about 123 = .ok (.ireturn, 1) := by decide +kernel
theorem dX10_about_124 : decode cX10_about 124 = .ok (.aload_n 0, 1) := by decide +kernel
theorem dX10_about_125 : decode cX10_about 125 = .ok (.getfield 32, 3) := by decide +kernel
theorem dX10_about_128 : decode cX10_about 128 = .ok (.getfield 87, 3) := by decide +kernel
theorem dX10_about_131 : decode cX10_about 131 = .ok (.getfield 217, 3) := by decide +kernel
theorem dX10_about_134 : decode cX10_about 134 = .ok (.ireturn, 1) := by decide +kernel
theorem dX10_about_135 : decode cX10_about 135 = .ok (.aload_n 0, 1) := by decide +kernel
theorem dX10_about_136 : decode cX10_about 136 = .ok (.getfield 39, 3) := by decide +kernel
theorem dX10_about_139 : decode cX10_about 139 = .ok (.getfield 347, 3) := by decide +kernel
theorem dX10_about_142 : decode cX10_about 142 = .ok (.ireturn, 1) := by decide +kernel
theorem dX10_about_143 : decode cX10_about 143 = .ok (.aload_n 0, 1) := by decide +kernel
theorem dX10_about_144 : decode cX10_about 144 = .ok (.getfield 46, 3) := by decide +kernel
theorem dX10_about_147 : decode cX10_about 147 = .ok (.getfield 350, 3) := by decide +kernel
theorem dX10_about_150 : decode cX10_about 150 = .ok (.ireturn, 1) := by decide +kernel
theorem dX10_about_151 : decode cX10_about 151 = .ok (.aload_n 0, 1) := by decide +kernel
theorem dX10_about_152 : decode cX10_about 152 = .ok (.getfield 46, 3) := by decide +kernel
theorem dX10_about_155 : decode cX10_about 155 = .ok (.getfield 353, 3) := by decide +kernel
theorem dX10_about_158 : decode cX10_about 158 = .ok (.ireturn, 1) := by decide +kernel
theorem dX10_about_159 : decode cX10_about 159 = .ok (.aload_n 0, 1) := by decide +kernel
theorem dX10_about_160 : decode cX10_about 160 = .ok (.getfield 79, 3) := by decide +kernel
theorem dX10_about_163 : decode cX10_about 163 = .ok (.getfield 356, 3) := by decide +kernel
theorem dX10_about_166 : decode cX10_about 166 = .ok (.ireturn, 1) := by decide +kernel
theorem dX10_about_167 : decode cX10_about 167 = .ok (.aload_n 0, 1) := by decide +kernel
theorem dX10_about_168 : decode cX10_about 168 = .ok (.getfield 323, 3) := by decide +kernel
theorem dX10_about_171 : decode cX10_about 171 = .ok (.ireturn, 1) := by decide +kernel
theorem dX10_about_172 : decode cX10_about 172 = .ok (.aload_n 0, 1) := by decide +kernel
theorem dX10_about_173 : decode cX10_about 173 = .ok (.getfield 97, 3) := by decide +kernel
theorem dX10_about_176 : decode cX10_about 176 = .ok (.ireturn, 1) := by decide +kernel
theorem dX10_about_177 : decode cX10_about 177 = .ok (.aload_n 0, 1) := by decide +kernel
theorem dX10_about_178 : decode cX10_about 178 = .ok (.getfield 32, 3) := by decide +kernel
theorem dX10_about_181 : decode cX10_about 181 = .ok (.getfield 87, 3) := by decide +kernel
theorem dX10_about_184 : decode cX10_about 184 = .ok (.getfield 359, 3) := by decide +kernel
theorem dX10_about_187 : decode cX10_about 187 = .ok (.getfield 363, 3) := by decide +kernel
theorem dX10_about_190 : decode cX10_about 190 = .ok (.ireturn, 1) := by decide +kernel
theorem dX10_about_191 : decode cX10_about 191 = .ok (.aload_n 0, 1) := by decide +kernel
theorem dX10_about_192 : decode cX10_about 192 = .ok (.getfield 112, 3) := by decide +kernel
theorem dX10_about_195 : decode cX10_about 195 = .ok (.ireturn, 1) := by decide +kernel
theorem dX10_about_196 : decode cX10_about 196 = .ok (.iconst (-1), 1) := by decide +kernel
theorem dX10_about_197 : decode cX10_about 197 = .ok (.ireturn, 1) := by decide +kernel
theorem dX10_isApple_0 : decode cX10_isApple 0 = .ok (.iload_n 1, 1) := by decide +kernel
theorem dX10_isApple_1 : decode cX10_isApple 1 = .ok (.ifCond .lt 21, 3) := by decide +kernel
theorem dX10_isApple_4 : decode cX10_isApple 4 = .ok (.iload_n 1, 1) := by decide +kernel
theorem dX10_isApple_5 : decode cX10_isApple 5 = .ok (.aload_n 0, 1) := by decide +kernel
theorem dX10_isApple_6 : decode cX10_isApple 6 = .ok (.getfield 32, 3) := by decide +kernel
theorem dX10_isApple_9 : decode cX10_isApple 9 = .ok (.getfield 87, 3) := by decide +kernel
theorem dX10_isApple_12 : decode cX10_isApple 12 = .ok (.getfield 115, 3) := by decide +kernel
theorem dX10_isApple_15 : decode cX10_isApple 15 = .ok (.if_icmp .ge 7, 3) := by decide +kernel
theorem dX10_isApple_18 : decode cX10_isApple 18 = .ok (.iconst 1, 1) := by decide +kernel
theorem dX10_isApple_19 : decode cX10_isApple 19 = .ok (.goto 4, 3) := by decide +kernel
theorem dX10_isApple_22 : decode cX10_isApple 22 = .ok (.iconst 0, 1) := by decide +kernel
theorem dX10_isApple_23 : decode cX10_isApple 23 = .ok (.ireturn, 1) := by decide +kernel
theorem dX10_isAfloat_0 : decode cX10_isAfloat 0 = .ok (.aload_n 0, 1) := by decide +kernel
theorem dX10_isAfloat_1 : decode cX10_isAfloat 1 = .ok (.iload_n 1, 1) := by decide +kernel
theorem dX10_isAfloat_2 : decode cX10_isAfloat 2 = .ok (.invokevirtual 124, 3) := by decide +kernel
theorem dX10_isAfloat_5 : decode cX10_isAfloat 5 = .ok (.ifCond .eq 20, 3) := by decide +kernel
theorem dX10_isAfloat_8 : decode cX10_isAfloat 8 = .ok (.aload_n 0, 1) := by decide +kernel
theorem dX10_isAfloat_9 : decode cX10_isAfloat 9 = .ok (.getfield 39, 3) := by decide +kernel
theorem dX10_isAfloat_12 : decode cX10_isAfloat 12 = .ok (.getfield 134, 3) := by decide +kernel
theorem dX10_isAfloat_15 : decode cX10_isAfloat 15 = .ok (.iload_n 1, 1) := by decide +kernel
theorem dX10_isAfloat_16 : decode cX10_isAfloat 16 = .ok (.iaload, 1) := by decide +kernel
theorem dX10_isAfloat_17 : decode cX10_isAfloat 17 = .ok (.iconst (-1), 1) := by decide +kernel
theorem dX10_isAfloat_18 : decode cX10_isAfloat 18 = .ok (.if_icmp .ne 7, 3) := by decide +kernel
theorem dX10_isAfloat_21 : decode cX10_isAfloat 21 = .ok (.iconst 1, 1) := by decide +kernel
theorem dX10_isAfloat_22 : decode cX10_isAfloat 22 = .ok (.goto 4, 3) := by decide +kernel
theorem dX10_isAfloat_25 : decode cX10_isAfloat 25 = .ok (.iconst 0, 1) := by decide +kernel
theorem dX10_isAfloat_26 : decode cX10_isAfloat 26 = .ok (.ireturn, 1) := by decide +kernel
theorem dX10_isBobber_0 : decode cX10_isBobber 0 = .ok (.iload_n 1, 1) := by decide +kernel
theorem dX10_isBobber_1 : decode cX10_isBobber 1 = .ok (.ifCond .lt 21, 3) := by decide +kernel
theorem dX10_isBobber_4 : decode cX10_isBobber 4 = .ok (.iload_n 1, 1) := by decide +kernel
theorem dX10_isBobber_5 : decode cX10_isBobber 5 = .ok (.aload_n 0, 1) := by decide +kernel
theorem dX10_isBobber_6 : decode cX10_isBobber 6 = .ok (.getfield 32, 3) := by decide +kernel
theorem dX10_isBobber_9 : decode cX10_isBobber 9 = .ok (.getfield 87, 3) := by decide +kernel
theorem dX10_isBobber_12 : decode cX10_isBobber 12 = .ok (.getfield 207, 3) := by decide +kernel
theorem dX10_isBobber_15 : decode cX10_isBobber 15 = .ok (.if_icmp .ge 7, 3) := by decide +kernel
theorem dX10_isBobber_18 : decode cX10_isBobber 18 = .ok (.iconst 1, 1) := by decide +kernel
theorem dX10_isBobber_19 : decode cX10_isBobber 19 = .ok (.goto 4, 3) := by decide +kernel
theorem dX10_isBobber_22 : decode cX10_isBobber 22 = .ok (.iconst 0, 1) := by decide +kernel
theorem dX10_isBobber_23 : decode cX10_isBobber 23 = .ok (.ireturn, 1) := by decide +kernel
theorem dX10_isRule_0 : decode cX10_isRule 0 = .ok (.iload_n 1, 1) := by decide +kernel
theorem dX10_isRule_1 : decode cX10_isRule 1 = .ok (.ifCond .lt 21, 3) := by decide +kernel
theorem dX10_isRule_4 : decode cX10_isRule 4 = .ok (.iload_n 1, 1) := by decide +kernel
theorem dX10_isRule_5 : decode cX10_isRule 5 = .ok (.aload_n 0, 1) := by decide +kernel
theorem dX10_isRule_6 : decode cX10_isRule 6 = .ok (.getfield 32, 3) := by decide +kernel
theorem dX10_isRule_9 : decode cX10_isRule 9 = .ok (.getfield 87, 3) := by decide +kernel
theorem dX10_isRule_12 : decode cX10_isRule 12 = .ok (.getfield 217, 3) := by decide +kernel
theorem dX10_isRule_15 : decode cX10_isRule 15 = .ok (.if_icmp .ge 7, 3) := by decide +kernel
theorem dX10_isRule_18 : decode cX10_isRule 18 = .ok (.iconst 1, 1) := by decide +kernel
theorem dX10_isRule_19 : decode cX10_isRule 19 = .ok (.goto 4, 3) := by decide +kernel
theorem dX10_isRule_22 : decode cX10_isRule 22 = .ok (.iconst 0, 1) := by decide +kernel
theorem dX10_isRule_23 : decode cX10_isRule 23 = .ok (.ireturn, 1) := by decide +kernel
theorem dX10_isKind_0 : decode cX10_isKind 0 = .ok (.iload_n 0, 1) := by decide +kernel
theorem dX10_isKind_1 : decode cX10_isKind 1 = .ok (.ifCond .lt 12, 3) := by decide +kernel
theorem dX10_isKind_4 : decode cX10_isKind 4 = .ok (.iload_n 0, 1) := by decide +kernel
theorem dX10_isKind_5 : decode cX10_isKind 5 = .ok (.iconst 5, 1) := by decide +kernel
theorem dX10_isKind_6 : decode cX10_isKind 6 = .ok (.if_icmp .ge 7, 3) := by decide +kernel
theorem dX10_isKind_9 : decode cX10_isKind 9 = .ok (.iconst 1, 1) := by decide +kernel
theorem dX10_isKind_10 : decode cX10_isKind 10 = .ok (.goto 4, 3) := by decide +kernel
theorem dX10_isKind_13 : decode cX10_isKind 13 = .ok (.iconst 0, 1) := by decide +kernel
theorem dX10_isKind_14 : decode cX10_isKind 14 = .ok (.ireturn, 1) := by decide +kernel
theorem dX10_isTrialTurns_0 : decode cX10_isTrialTurns 0 = .ok (.iload_n 0, 1) := by decide +kernel
theorem dX10_isTrialTurns_1 : decode cX10_isTrialTurns 1 = .ok (.iconst 1, 1) := by decide +kernel
theorem dX10_isTrialTurns_2 : decode cX10_isTrialTurns 2 = .ok (.if_icmp .lt 13, 3) := by decide +kernel
theorem dX10_isTrialTurns_5 : decode cX10_isTrialTurns 5 = .ok (.iload_n 0, 1) := by decide +kernel
theorem dX10_isTrialTurns_6 : decode cX10_isTrialTurns 6 = .ok (.bipush 10, 2) := by decide +kernel
theorem dX10_isTrialTurns_8 : decode cX10_isTrialTurns 8 = .ok (.if_icmp .gt 7, 3) := by decide +kernel
theorem dX10_isTrialTurns_11 : decode cX10_isTrialTurns 11 = .ok (.iconst 1, 1) := by decide +kernel
theorem dX10_isTrialTurns_12 : decode cX10_isTrialTurns 12 = .ok (.goto 4, 3) := by decide +kernel
theorem dX10_isTrialTurns_15 : decode cX10_isTrialTurns 15 = .ok (.iconst 0, 1) := by decide +kernel
theorem dX10_isTrialTurns_16 : decode cX10_isTrialTurns 16 = .ok (.ireturn, 1) := by decide +kernel
theorem dX10_isSet_0 : decode cX10_isSet 0 = .ok (.iload_n 1, 1) := by decide +kernel
theorem dX10_isSet_1 : decode cX10_isSet 1 = .ok (.ifCond .lt 23, 3) := by decide +kernel
theorem dX10_isSet_4 : decode cX10_isSet 4 = .ok (.iload_n 1, 1) := by decide +kernel
theorem dX10_isSet_5 : decode cX10_isSet 5 = .ok (.iconst 1, 1) := by decide +kernel
theorem dX10_isSet_6 : decode cX10_isSet 6 = .ok (.aload_n 0, 1) := by decide +kernel
theorem dX10_isSet_7 : decode cX10_isSet 7 = .ok (.getfield 32, 3) := by decide +kernel
theorem dX10_isSet_10 : decode cX10_isSet 10 = .ok (.getfield 87, 3) := by decide +kernel
theorem dX10_isSet_13 : decode cX10_isSet 13 = .ok (.getfield 115, 3) := by decide +kernel
theorem dX10_isSet_16 : decode cX10_isSet 16 = .ok (.ishl, 1) := by decide +kernel
theorem dX10_isSet_17 : decode cX10_isSet 17 = .ok (.if_icmp .ge 7, 3) := by decide +kernel
theorem dX10_isSet_20 : decode cX10_isSet 20 = .ok (.iconst 1, 1) := by decide +kernel
theorem dX10_isSet_21 : decode cX10_isSet 21 = .ok (.goto 4, 3) := by decide +kernel
theorem dX10_isSet_24 : decode cX10_isSet 24 = .ok (.iconst 0, 1) := by decide +kernel
theorem dX10_isSet_25 : decode cX10_isSet 25 = .ok (.ireturn, 1) := by decide +kernel
theorem dX10_afloatSet_0 : decode cX10_afloatSet 0 = .ok (.iconst 0, 1) := by decide +kernel
theorem dX10_afloatSet_1 : decode cX10_afloatSet 1 = .ok (.istore_n 1, 1) := by decide +kernel
theorem dX10_afloatSet_2 : decode cX10_afloatSet 2 = .ok (.iconst 0, 1) := by decide +kernel
theorem dX10_afloatSet_3 : decode cX10_afloatSet 3 = .ok (.istore_n 2, 1) := by decide +kernel
theorem dX10_afloatSet_4 : decode cX10_afloatSet 4 = .ok (.iload_n 2, 1) := by decide +kernel
theorem dX10_afloatSet_5 : decode cX10_afloatSet 5 = .ok (.aload_n 0, 1) := by decide +kernel
theorem dX10_afloatSet_6 : decode cX10_afloatSet 6 = .ok (.getfield 32, 3) := by decide +kernel
theorem dX10_afloatSet_9 : decode cX10_afloatSet 9 = .ok (.getfield 87, 3) := by decide +kernel
theorem dX10_afloatSet_12 : decode cX10_afloatSet 12 = .ok (.getfield 115, 3) := by decide +kernel
theorem dX10_afloatSet_15 : decode cX10_afloatSet 15 = .ok (.if_icmp .ge 23, 3) := by decide +kernel
theorem dX10_afloatSet_18 : decode cX10_afloatSet 18 = .ok (.aload_n 0, 1) := by decide +kernel
theorem dX10_afloatSet_19 : decode cX10_afloatSet 19 = .ok (.iload_n 2, 1) := by decide +kernel
theorem dX10_afloatSet_20 : decode cX10_afloatSet 20 = .ok (.invokevirtual 269, 3) := by decide +kernel
theorem dX10_afloatSet_23 : decode cX10_afloatSet 23 = .ok (.ifCond .eq 9, 3) := by decide +kernel
theorem dX10_afloatSet_26 : decode cX10_afloatSet 26 = .ok (.iload_n 1, 1) := by decide +kernel
theorem dX10_afloatSet_27 : decode cX10_afloatSet 27 = .ok (.iconst 1, 1) := by decide +kernel
theorem dX10_afloatSet_28 : decode cX10_afloatSet 28 = .ok (.iload_n 2, 1) := by decide +kernel
theorem dX10_afloatSet_29 : decode cX10_afloatSet 29 = .ok (.ishl, 1) := by decide +kernel
theorem dX10_afloatSet_30 : decode cX10_afloatSet 30 = .ok (.ior, 1) := by decide +kernel
theorem dX10_afloatSet_31 : decode cX10_afloatSet 31 = .ok (.istore_n 1, 1) := by decide +kernel
theorem dX10_afloatSet_32 : decode cX10_afloatSet 32 = .ok (.iinc 2 1, 3) := by decide +kernel
theorem dX10_afloatSet_35 : decode cX10_afloatSet 35 = .ok (.goto (-31), 3) := by decide +kernel
theorem dX10_afloatSet_38 : decode cX10_afloatSet 38 = .ok (.iload_n 1, 1) := by decide +kernel
theorem dX10_afloatSet_39 : decode cX10_afloatSet 39 = .ok (.ireturn, 1) := by decide +kernel
theorem dX10_canTryNow_0 : decode cX10_canTryNow 0 = .ok (.aload_n 0, 1) := by decide +kernel
theorem dX10_canTryNow_1 : decode cX10_canTryNow 1 = .ok (.iload_n 1, 1) := by decide +kernel
theorem dX10_canTryNow_2 : decode cX10_canTryNow 2 = .ok (.invokevirtual 143, 3) := by decide +kernel
theorem dX10_canTryNow_5 : decode cX10_canTryNow 5 = .ok (.ifCond .eq 39, 3) := by decide +kernel
theorem dX10_canTryNow_8 : decode cX10_canTryNow 8 = .ok (.aload_n 0, 1) := by decide +kernel
theorem dX10_canTryNow_9 : decode cX10_canTryNow 9 = .ok (.iload_n 2, 1) := by decide +kernel
theorem dX10_canTryNow_10 : decode cX10_canTryNow 10 = .ok (.invokevirtual 124, 3) := by decide +kernel
theorem dX10_canTryNow_13 : decode cX10_canTryNow 13 = .ok (.ifCond .eq 31, 3) := by decide +kernel
theorem dX10_canTryNow_16 : decode cX10_canTryNow 16 = .ok (.iload_n 3, 1) := by decide +kernel
theorem dX10_canTryNow_17 : decode cX10_canTryNow 17 = .ok (.invokestatic 230, 3) := by decide +kernel
theorem dX10_canTryNow_20 : decode cX10_canTryNow 20 = .ok (.ifCond .eq 24, 3) := by decide +kernel
theorem dX10_canTryNow_23 : decode cX10_canTryNow 23 = .ok (.aload_n 0, 1) := by decide +kernel
theorem dX10_canTryNow_24 : decode cX10_canTryNow 24 = .ok (.getfield 32, 3) := by decide +kernel
theorem dX10_canTryNow_27 : decode cX10_canTryNow 27 = .ok (.aload_n 0, 1) := by decide +kernel
theorem dX10_canTryNow_28 : decode cX10_canTryNow 28 = .ok (.getfield 39, 3) := by decide +kernel
theorem dX10_canTryNow_31 : decode cX10_canTryNow 31 = .ok (.iload_n 1, 1) := by decide +kernel
theorem dX10_canTryNow_32 : decode cX10_canTryNow 32 = .ok (.iload_n 2, 1) := by decide +kernel
theorem dX10_canTryNow_33 : decode cX10_canTryNow 33 = .ok (.iload_n 3, 1) := by decide +kernel
theorem dX10_canTryNow_34 : decode cX10_canTryNow 34 = .ok (.invokevirtual 240, 3) := by decide +kernel
theorem dX10_canTryNow_37 : decode cX10_canTryNow 37 = .ok (.ifCond .eq 7, 3) := by decide +kernel
theorem dX10_canTryNow_40 : decode cX10_canTryNow 40 = .ok (.iconst 1, 1) := by decide +kernel
theorem dX10_canTryNow_41 : decode cX10_canTryNow 41 = .ok (.goto 4, 3) := by decide +kernel
theorem dX10_canTryNow_44 : decode cX10_canTryNow 44 = .ok (.iconst 0, 1) := by decide +kernel
theorem dX10_canTryNow_45 : decode cX10_canTryNow 45 = .ok (.ireturn, 1) := by decide +kernel
theorem dX10_lay_0 : decode cX10_lay 0 = .ok (.aload_n 0, 1) := by decide +kernel
theorem dX10_lay_1 : decode cX10_lay 1 = .ok (.getfield 112, 3) := by decide +kernel
theorem dX10_lay_4 : decode cX10_lay 4 = .ok (.bipush 36, 2) := by decide +kernel
theorem dX10_lay_6 : decode cX10_lay 6 = .ok (.if_icmp .ge 23, 3) := by decide +kernel
theorem dX10_lay_9 : decode cX10_lay 9 = .ok (.aload_n 0, 1) := by decide +kernel
theorem dX10_lay_10 : decode cX10_lay 10 = .ok (.getfield 83, 3) := by decide +kernel
theorem dX10_lay_13 : decode cX10_lay 13 = .ok (.aload_n 0, 1) := by decide +kernel
theorem dX10_lay_14 : decode cX10_lay 14 = .ok (.getfield 112, 3) := by decide +kernel
theorem dX10_lay_17 : decode cX10_lay 17 = .ok (.iload_n 1, 1) := by decide +kernel
theorem dX10_lay_18 : decode cX10_lay 18 = .ok (.iastore, 1) := by decide +kernel
theorem dX10_lay_19 : decode cX10_lay 19 = .ok (.aload_n 0, 1) := by decide +kernel
theorem dX10_lay_20 : decode cX10_lay 20 = .ok (.dup, 1) := by decide +kernel
theorem dX10_lay_21 : decode cX10_lay 21 = .ok (.getfield 112, 3) := by decide +kernel
theorem dX10_lay_24 : decode cX10_lay 24 = .ok (.iconst 1, 1) := by decide +kernel
theorem dX10_lay_25 : decode cX10_lay 25 = .ok (.iadd, 1) := by decide +kernel
theorem dX10_lay_26 : decode cX10_lay 26 = .ok (.putfield 112, 3) := by decide +kernel
theorem dX10_lay_29 : decode cX10_lay 29 = .ok (.return_, 1) := by decide +kernel
theorem dX10_layAll_0 : decode cX10_layAll 0 = .ok (.iconst 0, 1) := by decide +kernel
theorem dX10_layAll_1 : decode cX10_layAll 1 = .ok (.istore_n 3, 1) := by decide +kernel
theorem dX10_layAll_2 : decode cX10_layAll 2 = .ok (.iload_n 3, 1) := by decide +kernel
theorem dX10_layAll_3 : decode cX10_layAll 3 = .ok (.iload_n 2, 1) := by decide +kernel
theorem dX10_layAll_4 : decode cX10_layAll 4 = .ok (.if_icmp .ge 22, 3) := by decide +kernel
theorem dX10_layAll_7 : decode cX10_layAll 7 = .ok (.iload_n 3, 1) := by decide +kernel
theorem dX10_layAll_8 : decode cX10_layAll 8 = .ok (.aload_n 1, 1) := by decide +kernel
theorem dX10_layAll_9 : decode cX10_layAll 9 = .ok (.arraylength, 1) := by decide +kernel
theorem dX10_layAll_10 : decode cX10_layAll 10 = .ok (.if_icmp .ge 16, 3) := by decide +kernel
theorem dX10_layAll_13 : decode cX10_layAll 13 = .ok (.aload_n 0, 1) := by decide +kernel
theorem dX10_layAll_14 : decode cX10_layAll 14 = .ok (.aload_n 1, 1) := by decide +kernel
theorem dX10_layAll_15 : decode cX10_layAll 15 = .ok (.iload_n 3, 1) := by decide +kernel
theorem dX10_layAll_16 : decode cX10_layAll 16 = .ok (.iaload, 1) := by decide +kernel
theorem dX10_layAll_17 : decode cX10_layAll 17 = .ok (.invokevirtual 227, 3) := by decide +kernel
theorem dX10_layAll_20 : decode cX10_layAll 20 = .ok (.iinc 3 1, 3) := by decide +kernel
theorem dX10_layAll_23 : decode cX10_layAll 23 = .ok (.goto (-21), 3) := by decide +kernel
theorem dX10_layAll_26 : decode cX10_layAll 26 = .ok (.return_, 1) := by decide +kernel
