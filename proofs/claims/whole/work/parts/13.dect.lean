theorem dX1_far_0 : decode cX1_far 0 = .ok (.aload_n 1, 1) := by decide +kernel
theorem dX1_far_1 : decode cX1_far 1 = .ok (.getfield 21, 3) := by decide +kernel
theorem dX1_far_4 : decode cX1_far 4 = .ok (.iload_n 3, 1) := by decide +kernel
theorem dX1_far_5 : decode cX1_far 5 = .ok (.iaload, 1) := by decide +kernel
theorem dX1_far_6 : decode cX1_far 6 = .ok (.aload_n 1, 1) := by decide +kernel
theorem dX1_far_7 : decode cX1_far 7 = .ok (.getfield 26, 3) := by decide +kernel
theorem dX1_far_10 : decode cX1_far 10 = .ok (.iload_n 2, 1) := by decide +kernel
theorem dX1_far_11 : decode cX1_far 11 = .ok (.iaload, 1) := by decide +kernel
theorem dX1_far_12 : decode cX1_far 12 = .ok (.isub, 1) := by decide +kernel
theorem dX1_far_13 : decode cX1_far 13 = .ok (.invokestatic 29, 3) := by decide +kernel
theorem dX1_far_16 : decode cX1_far 16 = .ok (.istore 4, 2) := by decide +kernel
theorem dX1_far_18 : decode cX1_far 18 = .ok (.aload_n 1, 1) := by decide +kernel
theorem dX1_far_19 : decode cX1_far 19 = .ok (.getfield 35, 3) := by decide +kernel
theorem dX1_far_22 : decode cX1_far 22 = .ok (.iload_n 3, 1) := by decide +kernel
theorem dX1_far_23 : decode cX1_far 23 = .ok (.iaload, 1) := by decide +kernel
theorem dX1_far_24 : decode cX1_far 24 = .ok (.aload_n 1, 1) := by decide +kernel
theorem dX1_far_25 : decode cX1_far 25 = .ok (.getfield 38, 3) := by decide +kernel
theorem dX1_far_28 : decode cX1_far 28 = .ok (.iload_n 2, 1) := by decide +kernel
theorem dX1_far_29 : decode cX1_far 29 = .ok (.iaload, 1) := by decide +kernel
theorem dX1_far_30 : decode cX1_far 30 = .ok (.isub, 1) := by decide +kernel
theorem dX1_far_31 : decode cX1_far 31 = .ok (.invokestatic 29, 3) := by decide +kernel
theorem dX1_far_34 : decode cX1_far 34 = .ok (.istore 5, 2) := by decide +kernel
theorem dX1_far_36 : decode cX1_far 36 = .ok (.iload 4, 2) := by decide +kernel
theorem dX1_far_38 : decode cX1_far 38 = .ok (.iload 5, 2) := by decide +kernel
theorem dX1_far_40 : decode cX1_far 40 = .ok (.invokestatic 41, 3) := by decide +kernel
theorem dX1_far_43 : decode cX1_far 43 = .ok (.ireturn, 1) := by decide +kernel
theorem dX1_appleIn_0 : decode cX1_appleIn 0 = .ok (.iconst 0, 1) := by decide +kernel
theorem dX1_appleIn_1 : decode cX1_appleIn 1 = .ok (.istore 4, 2) := by decide +kernel
theorem dX1_appleIn_3 : decode cX1_appleIn 3 = .ok (.iload 4, 2) := by decide +kernel
theorem dX1_appleIn_5 : decode cX1_appleIn 5 = .ok (.aload_n 0, 1) := by decide +kernel
theorem dX1_appleIn_6 : decode cX1_appleIn 6 = .ok (.getfield 17, 3) := by decide +kernel
theorem dX1_appleIn_9 : decode cX1_appleIn 9 = .ok (.getfield 45, 3) := by decide +kernel
theorem dX1_appleIn_12 : decode cX1_appleIn 12 = .ok (.if_icmp .ge 45, 3) := by decide +kernel
theorem dX1_appleIn_15 : decode cX1_appleIn 15 = .ok (.aload_n 1, 1) := by decide +kernel
theorem dX1_appleIn_16 : decode cX1_appleIn 16 = .ok (.getfield 51, 3) := by decide +kernel
theorem dX1_appleIn_19 : decode cX1_appleIn 19 = .ok (.iload 4, 2) := by decide +kernel
theorem dX1_appleIn_21 : decode cX1_appleIn 21 = .ok (.iaload, 1) := by decide +kernel
theorem dX1_appleIn_22 : decode cX1_appleIn 22 = .ok (.iconst (-1), 1) := by decide +kernel
theorem dX1_appleIn_23 : decode cX1_appleIn 23 = .ok (.if_icmp .ne 28, 3) := by decide +kernel
theorem dX1_appleIn_26 : decode cX1_appleIn 26 = .ok (.aload_n 1, 1) := by decide +kernel
theorem dX1_appleIn_27 : decode cX1_appleIn 27 = .ok (.getfield 21, 3) := by decide +kernel
theorem dX1_appleIn_30 : decode cX1_appleIn 30 = .ok (.iload 4, 2) := by decide +kernel
theorem dX1_appleIn_32 : decode cX1_appleIn 32 = .ok (.iaload, 1) := by decide +kernel
theorem dX1_appleIn_33 : decode cX1_appleIn 33 = .ok (.iload_n 2, 1) := by decide +kernel
theorem dX1_appleIn_34 : decode cX1_appleIn 34 = .ok (.if_icmp .ne 17, 3) := by decide +kernel
theorem dX1_appleIn_37 : decode cX1_appleIn 37 = .ok (.aload_n 1, 1) := by decide +kernel
theorem dX1_appleIn_38 : decode cX1_appleIn 38 = .ok (.getfield 35, 3) := by decide +kernel
theorem dX1_appleIn_41 : decode cX1_appleIn 41 = .ok (.iload 4, 2) := by decide +kernel
theorem dX1_appleIn_43 : decode cX1_appleIn 43 = .ok (.iaload, 1) := by decide +kernel
theorem dX1_appleIn_44 : decode cX1_appleIn 44 = .ok (.iload_n 3, 1) := by decide +kernel
theorem dX1_appleIn_45 : decode cX1_appleIn 45 = .ok (.if_icmp .ne 6, 3) := by decide +kernel
theorem dX1_appleIn_48 : decode cX1_appleIn 48 = .ok (.iload 4, 2) := by decide +kernel
theorem dX1_appleIn_50 : decode cX1_appleIn 50 = .ok (.ireturn, 1) := by decide +kernel
theorem dX1_appleIn_51 : decode cX1_appleIn 51 = .ok (.iinc 4 1, 3) := by decide +kernel
theorem dX1_appleIn_54 : decode cX1_appleIn 54 = .ok (.goto (-51), 3) := by decide +kernel
theorem dX1_appleIn_57 : decode cX1_appleIn 57 = .ok (.iconst (-1), 1) := by decide +kernel
theorem dX1_appleIn_58 : decode cX1_appleIn 58 = .ok (.ireturn, 1) := by decide +kernel
theorem dX10_feed_0 : decode cX10_feed 0 = .ok (.aload_n 0, 1) := by decide +kernel
theorem dX10_feed_1 : decode cX10_feed 1 = .ok (.getfield 97, 3) := by decide +kernel
theorem dX10_feed_4 : decode cX10_feed 4 = .ok (.sipush 1580, 3) := by decide +kernel
theorem dX10_feed_7 : decode cX10_feed 7 = .ok (.if_icmp .le 5, 3) := by decide +kernel
theorem dX10_feed_10 : decode cX10_feed 10 = .ok (.iconst (-1), 1) := by decide +kernel
theorem dX10_feed_11 : decode cX10_feed 11 = .ok (.ireturn, 1) := by decide +kernel
theorem dX10_feed_12 : decode cX10_feed 12 = .ok (.aload_n 0, 1) := by decide +kernel
theorem dX10_feed_13 : decode cX10_feed 13 = .ok (.iload_n 1, 1) := by decide +kernel
theorem dX10_feed_14 : decode cX10_feed 14 = .ok (.invokevirtual 101, 3) := by decide +kernel
theorem dX10_feed_17 : decode cX10_feed 17 = .ok (.aload_n 0, 1) := by decide +kernel
theorem dX10_feed_18 : decode cX10_feed 18 = .ok (.iload_n 2, 1) := by decide +kernel
theorem dX10_feed_19 : decode cX10_feed 19 = .ok (.invokevirtual 101, 3) := by decide +kernel
theorem dX10_feed_22 : decode cX10_feed 22 = .ok (.aload_n 0, 1) := by decide +kernel
theorem dX10_feed_23 : decode cX10_feed 23 = .ok (.iload_n 3, 1) := by decide +kernel
theorem dX10_feed_24 : decode cX10_feed 24 = .ok (.invokevirtual 101, 3) := by decide +kernel
theorem dX10_feed_27 : decode cX10_feed 27 = .ok (.aload_n 0, 1) := by decide +kernel
theorem dX10_feed_28 : decode cX10_feed 28 = .ok (.iload 4, 2) := by decide +kernel
theorem dX10_feed_30 : decode cX10_feed 30 = .ok (.invokevirtual 101, 3) := by decide +kernel
theorem dX10_feed_33 : decode cX10_feed 33 = .ok (.aload_n 0, 1) := by decide +kernel
theorem dX10_feed_34 : decode cX10_feed 34 = .ok (.iload 5, 2) := by decide +kernel
theorem dX10_feed_36 : decode cX10_feed 36 = .ok (.invokevirtual 101, 3) := by decide +kernel
theorem dX10_feed_39 : decode cX10_feed 39 = .ok (.aload_n 0, 1) := by decide +kernel
theorem dX10_feed_40 : decode cX10_feed 40 = .ok (.getfield 97, 3) := by decide +kernel
theorem dX10_feed_43 : decode cX10_feed 43 = .ok (.ireturn, 1) := by decide +kernel
theorem dX10_append_0 : decode cX10_append 0 = .ok (.bipush 24, 2) := by decide +kernel
theorem dX10_append_2 : decode cX10_append 2 = .ok (.istore_n 2, 1) := by decide +kernel
theorem dX10_append_3 : decode cX10_append 3 = .ok (.iload_n 2, 1) := by decide +kernel
theorem dX10_append_4 : decode cX10_append 4 = .ok (.ifCond .lt 42, 3) := by decide +kernel
theorem dX10_append_7 : decode cX10_append 7 = .ok (.aload_n 0, 1) := by decide +kernel
theorem dX10_append_8 : decode cX10_append 8 = .ok (.getfield 97, 3) := by decide +kernel
theorem dX10_append_11 : decode cX10_append 11 = .ok (.sipush 1600, 3) := by decide +kernel
theorem dX10_append_14 : decode cX10_append 14 = .ok (.if_icmp .ge 32, 3) := by decide +kernel
theorem dX10_append_17 : decode cX10_append 17 = .ok (.aload_n 0, 1) := by decide +kernel
theorem dX10_append_18 : decode cX10_append 18 = .ok (.getfield 9, 3) := by decide +kernel
theorem dX10_append_21 : decode cX10_append 21 = .ok (.aload_n 0, 1) := by decide +kernel
theorem dX10_append_22 : decode cX10_append 22 = .ok (.getfield 97, 3) := by decide +kernel
theorem dX10_append_25 : decode cX10_append 25 = .ok (.iload_n 1, 1) := by decide +kernel
theorem dX10_append_26 : decode cX10_append 26 = .ok (.iload_n 2, 1) := by decide +kernel
theorem dX10_append_27 : decode cX10_append 27 = .ok (.ishr, 1) := by decide +kernel
theorem dX10_append_28 : decode cX10_append 28 = .ok (.i2b, 1) := by decide +kernel
theorem dX10_append_29 : decode cX10_append 29 = .ok (.bastore, 1) := by decide +kernel
theorem dX10_append_30 : decode cX10_append 30 = .ok (.aload_n 0, 1) := by decide +kernel
theorem dX10_append_31 : decode cX10_append 31 = .ok (.dup, 1) := by decide +kernel
theorem dX10_append_32 : decode cX10_append 32 = .ok (.getfield 97, 3) := by decide +kernel
theorem dX10_append_35 : decode cX10_append 35 = .ok (.iconst 1, 1) := by decide +kernel
theorem dX10_append_36 : decode cX10_append 36 = .ok (.iadd, 1) := by decide +kernel
theorem dX10_append_37 : decode cX10_append 37 = .ok (.putfield 97, 3) := by decide +kernel
theorem dX10_append_40 : decode cX10_append 40 = .ok (.iinc 2 (-8), 3) := by decide +kernel
theorem dX10_append_43 : decode cX10_append 43 = .ok (.goto (-40), 3) := by decide +kernel
theorem dX10_append_46 : decode cX10_append 46 = .ok (.return_, 1) := by decide +kernel
theorem dX10_end_0 : decode cX10_end 0 = .ok (.iload_n 1, 1) := by decide +kernel
theorem dX10_end_1 : decode cX10_end 1 = .ok (.ifCond .lt 11, 3) := by decide +kernel
theorem dX10_end_4 : decode cX10_end 4 = .ok (.iload_n 1, 1) := by decide +kernel
theorem dX10_end_5 : decode cX10_end 5 = .ok (.aload_n 0, 1) := by decide +kernel
theorem dX10_end_6 : decode cX10_end 6 = .ok (.getfield 97, 3) := by decide +kernel
theorem dX10_end_9 : decode cX10_end 9 = .ok (.if_icmp .le 5, 3) := by decide +kernel
theorem dX10_end_12 : decode cX10_end 12 = .ok (.iconst (-1), 1) := by decide +kernel
theorem dX10_end_13 : decode cX10_end 13 = .ok (.ireturn, 1) := by decide +kernel
theorem dX10_end_14 : decode cX10_end 14 = .ok (.aload_n 0, 1) := by decide +kernel
theorem dX10_end_15 : decode cX10_end 15 = .ok (.iload_n 1, 1) := by decide +kernel
theorem dX10_end_16 : decode cX10_end 16 = .ok (.putfield 97, 3) := by decide +kernel
theorem dX10_end_19 : decode cX10_end 19 = .ok (.iload_n 1, 1) := by decide +kernel
theorem dX10_end_20 : decode cX10_end 20 = .ok (.ireturn, 1) := by decide +kernel
