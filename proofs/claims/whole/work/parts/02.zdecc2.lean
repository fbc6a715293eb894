theorem dX11_layBest_296 : decode cX11_layBest 296 = .ok (.getfield 139, 3) := by decide +kernel
theorem dX11_layBest_299 : decode cX11_layBest 299 = .ok (.iload_n 3, 1) := by decide +kernel
theorem dX11_layBest_300 : decode cX11_layBest 300 = .ok (.iaload, 1) := by decide +kernel
theorem dX11_layBest_301 : decode cX11_layBest 301 = .ok (.iconst 2, 1) := by decide +kernel
theorem dX11_layBest_302 : decode cX11_layBest 302 = .ok (.if_icmp .ne 31, 3) := by decide +kernel
theorem dX11_layBest_305 : decode cX11_layBest 305 = .ok (.iload 6, 2) := by decide +kernel
theorem dX11_layBest_307 : decode cX11_layBest 307 = .ok (.ldc_w 602, 3) := by decide +kernel
theorem dX11_layBest_310 : decode cX11_layBest 310 = .ok (.aload_n 0, 1) := by decide +kernel
theorem dX11_layBest_311 : decode cX11_layBest 311 = .ok (.getfield 142, 3) := by decide +kernel
theorem dX11_layBest_314 : decode cX11_layBest 314 = .ok (.iload_n 3, 1) := by decide +kernel
theorem dX11_layBest_315 : decode cX11_layBest 315 = .ok (.iaload, 1) := by decide +kernel
theorem dX11_layBest_316 : decode cX11_layBest 316 = .ok (.iadd, 1) := by decide +kernel
theorem dX11_layBest_317 : decode cX11_layBest 317 = .ok (.imul, 1) := by decide +kernel
theorem dX11_layBest_318 : decode cX11_layBest 318 = .ok (.bipush 100, 2) := by decide +kernel
theorem dX11_layBest_320 : decode cX11_layBest 320 = .ok (.iload 6, 2) := by decide +kernel
theorem dX11_layBest_322 : decode cX11_layBest 322 = .ok (.isub, 1) := by decide +kernel
theorem dX11_layBest_323 : decode cX11_layBest 323 = .ok (.iload 4, 2) := by decide +kernel
theorem dX11_layBest_325 : decode cX11_layBest 325 = .ok (.imul, 1) := by decide +kernel
theorem dX11_layBest_326 : decode cX11_layBest 326 = .ok (.iadd, 1) := by decide +kernel
theorem dX11_layBest_327 : decode cX11_layBest 327 = .ok (.bipush 100, 2) := by decide +kernel
theorem dX11_layBest_329 : decode cX11_layBest 329 = .ok (.idiv, 1) := by decide +kernel
theorem dX11_layBest_330 : decode cX11_layBest 330 = .ok (.goto 5, 3) := by decide +kernel
theorem dX11_layBest_333 : decode cX11_layBest 333 = .ok (.iload 4, 2) := by decide +kernel
theorem dX11_layBest_335 : decode cX11_layBest 335 = .ok (.invokevirtual 603, 3) := by decide +kernel
theorem dX11_layBest_338 : decode cX11_layBest 338 = .ok (.aload_n 0, 1) := by decide +kernel
theorem dX11_layBest_339 : decode cX11_layBest 339 = .ok (.getfield 139, 3) := by decide +kernel
theorem dX11_layBest_342 : decode cX11_layBest 342 = .ok (.iload_n 3, 1) := by decide +kernel
theorem dX11_layBest_343 : decode cX11_layBest 343 = .ok (.iconst 0, 1) := by decide +kernel
theorem dX11_layBest_344 : decode cX11_layBest 344 = .ok (.iastore, 1) := by decide +kernel
theorem dX11_layBest_345 : decode cX11_layBest 345 = .ok (.goto (-325), 3) := by decide +kernel
theorem dX11_layBest_348 : decode cX11_layBest 348 = .ok (.aload_n 0, 1) := by decide +kernel
theorem dX11_layBest_349 : decode cX11_layBest 349 = .ok (.getfield 590, 3) := by decide +kernel
theorem dX11_layBest_352 : decode cX11_layBest 352 = .ok (.sipush 20000, 3) := by decide +kernel
theorem dX11_layBest_355 : decode cX11_layBest 355 = .ok (.if_icmp .gt 7, 3) := by decide +kernel
theorem dX11_layBest_358 : decode cX11_layBest 358 = .ok (.iconst 1, 1) := by decide +kernel
theorem dX11_layBest_359 : decode cX11_layBest 359 = .ok (.goto 4, 3) := by decide +kernel
theorem dX11_layBest_362 : decode cX11_layBest 362 = .ok (.iconst 0, 1) := by decide +kernel
theorem dX11_layBest_363 : decode cX11_layBest 363 = .ok (.ireturn, 1) := by decide +kernel
theorem dX11_best_0 : decode cX11_best 0 = .ok (.aload_n 0, 1) := by decide +kernel
theorem dX11_best_1 : decode cX11_best 1 = .ok (.iload_n 1, 1) := by decide +kernel
theorem dX11_best_2 : decode cX11_best 2 = .ok (.invokevirtual 563, 3) := by decide +kernel
theorem dX11_best_5 : decode cX11_best 5 = .ok (.ifCond .eq 22, 3) := by decide +kernel
theorem dX11_best_8 : decode cX11_best 8 = .ok (.iload_n 2, 1) := by decide +kernel
theorem dX11_best_9 : decode cX11_best 9 = .ok (.iconst 0, 1) := by decide +kernel
theorem dX11_best_10 : decode cX11_best 10 = .ok (.bipush 8, 2) := by decide +kernel
theorem dX11_best_12 : decode cX11_best 12 = .ok (.invokestatic 494, 3) := by decide +kernel
theorem dX11_best_15 : decode cX11_best 15 = .ok (.ifCond .eq 12, 3) := by decide +kernel
theorem dX11_best_18 : decode cX11_best 18 = .ok (.iload_n 3, 1) := by decide +kernel
theorem dX11_best_19 : decode cX11_best 19 = .ok (.iconst 0, 1) := by decide +kernel
theorem dX11_best_20 : decode cX11_best 20 = .ok (.iconst 2, 1) := by decide +kernel
theorem dX11_best_21 : decode cX11_best 21 = .ok (.invokestatic 494, 3) := by decide +kernel
theorem dX11_best_24 : decode cX11_best 24 = .ok (.ifCond .ne 5, 3) := by decide +kernel
theorem dX11_best_27 : decode cX11_best 27 = .ok (.iconst (-1), 1) := by decide +kernel
theorem dX11_best_28 : decode cX11_best 28 = .ok (.ireturn, 1) := by decide +kernel
theorem dX11_best_29 : decode cX11_best 29 = .ok (.aload_n 0, 1) := by decide +kernel
theorem dX11_best_30 : decode cX11_best 30 = .ok (.iload_n 1, 1) := by decide +kernel
theorem dX11_best_31 : decode cX11_best 31 = .ok (.iload_n 2, 1) := by decide +kernel
theorem dX11_best_32 : decode cX11_best 32 = .ok (.invokevirtual 606, 3) := by decide +kernel
theorem dX11_best_35 : decode cX11_best 35 = .ok (.ifCond .ne 6, 3) := by decide +kernel
theorem dX11_best_38 : decode cX11_best 38 = .ok (.bipush (-2), 2) := by decide +kernel
theorem dX11_best_40 : decode cX11_best 40 = .ok (.ireturn, 1) := by decide +kernel
theorem dX11_best_41 : decode cX11_best 41 = .ok (.iload_n 3, 1) := by decide +kernel
theorem dX11_best_42 : decode cX11_best 42 = .ok (.ifCond .ne 12, 3) := by decide +kernel
theorem dX11_best_45 : decode cX11_best 45 = .ok (.aload_n 0, 1) := by decide +kernel
theorem dX11_best_46 : decode cX11_best 46 = .ok (.getfield 145, 3) := by decide +kernel
theorem dX11_best_49 : decode cX11_best 49 = .ok (.iconst 0, 1) := by decide +kernel
theorem dX11_best_50 : decode cX11_best 50 = .ok (.iaload, 1) := by decide +kernel
theorem dX11_best_51 : decode cX11_best 51 = .ok (.goto 54, 3) := by decide +kernel
theorem dX11_best_54 : decode cX11_best 54 = .ok (.iload_n 3, 1) := by decide +kernel
theorem dX11_best_55 : decode cX11_best 55 = .ok (.iconst 1, 1) := by decide +kernel
theorem dX11_best_56 : decode cX11_best 56 = .ok (.if_icmp .ne 30, 3) := by decide +kernel
theorem dX11_best_59 : decode cX11_best 59 = .ok (.aload_n 0, 1) := by decide +kernel
theorem dX11_best_60 : decode cX11_best 60 = .ok (.getfield 148, 3) := by decide +kernel
theorem dX11_best_63 : decode cX11_best 63 = .ok (.iconst 0, 1) := by decide +kernel
theorem dX11_best_64 : decode cX11_best 64 = .ok (.iaload, 1) := by decide +kernel
theorem dX11_best_65 : decode cX11_best 65 = .ok (.bipush 50, 2) := by decide +kernel
theorem dX11_best_67 : decode cX11_best 67 = .ok (.if_icmp .ne 7, 3) := by decide +kernel
theorem dX11_best_70 : decode cX11_best 70 = .ok (.iconst (-1), 1) := by decide +kernel
theorem dX11_best_71 : decode cX11_best 71 = .ok (.goto 34, 3) := by decide +kernel
theorem dX11_best_74 : decode cX11_best 74 = .ok (.aload_n 0, 1) := by decide +kernel
theorem dX11_best_75 : decode cX11_best 75 = .ok (.getfield 148, 3) := by decide +kernel
theorem dX11_best_78 : decode cX11_best 78 = .ok (.iconst 0, 1) := by decide +kernel
theorem dX11_best_79 : decode cX11_best 79 = .ok (.iaload, 1) := by decide +kernel
theorem dX11_best_80 : decode cX11_best 80 = .ok (.invokestatic 572, 3) := by decide +kernel
theorem dX11_best_83 : decode cX11_best 83 = .ok (.goto 22, 3) := by decide +kernel
theorem dX11_best_86 : decode cX11_best 86 = .ok (.aload_n 0, 1) := by decide +kernel
theorem dX11_best_87 : decode cX11_best 87 = .ok (.getfield 148, 3) := by decide +kernel
theorem dX11_best_90 : decode cX11_best 90 = .ok (.iconst 0, 1) := by decide +kernel
theorem dX11_best_91 : decode cX11_best 91 = .ok (.iaload, 1) := by decide +kernel
theorem dX11_best_92 : decode cX11_best 92 = .ok (.bipush 50, 2) := by decide +kernel
theorem dX11_best_94 : decode cX11_best 94 = .ok (.if_icmp .ne 7, 3) := by decide +kernel
theorem dX11_best_97 : decode cX11_best 97 = .ok (.iconst 1, 1) := by decide +kernel
theorem dX11_best_98 : decode cX11_best 98 = .ok (.goto 4, 3) := by decide +kernel
theorem dX11_best_101 : decode cX11_best 101 = .ok (.iconst 0, 1) := by decide +kernel
theorem dX11_best_102 : decode cX11_best 102 = .ok (.invokestatic 354, 3) := by decide +kernel
theorem dX11_best_105 : decode cX11_best 105 = .ok (.ireturn, 1) := by decide +kernel
theorem dX11_record_0 : decode cX11_record 0 = .ok (.aload_n 0, 1) := by decide +kernel
theorem dX11_record_1 : decode cX11_record 1 = .ok (.iload_n 1, 1) := by decide +kernel
theorem dX11_record_2 : decode cX11_record 2 = .ok (.invokevirtual 563, 3) := by decide +kernel
theorem dX11_record_5 : decode cX11_record 5 = .ok (.ifCond .eq 42, 3) := by decide +kernel
theorem dX11_record_8 : decode cX11_record 8 = .ok (.iload_n 2, 1) := by decide +kernel
theorem dX11_record_9 : decode cX11_record 9 = .ok (.iconst 0, 1) := by decide +kernel
theorem dX11_record_10 : decode cX11_record 10 = .ok (.iconst 4, 1) := by decide +kernel
theorem dX11_record_11 : decode cX11_record 11 = .ok (.invokestatic 494, 3) := by decide +kernel
theorem dX11_record_14 : decode cX11_record 14 = .ok (.ifCond .eq 33, 3) := by decide +kernel
theorem dX11_record_17 : decode cX11_record 17 = .ok (.iload_n 3, 1) := by decide +kernel
theorem dX11_record_18 : decode cX11_record 18 = .ok (.iconst 0, 1) := by decide +kernel
theorem dX11_record_19 : decode cX11_record 19 = .ok (.iconst 2, 1) := by decide +kernel
theorem dX11_record_20 : decode cX11_record 20 = .ok (.invokestatic 494, 3) := by decide +kernel
theorem dX11_record_23 : decode cX11_record 23 = .ok (.ifCond .eq 24, 3) := by decide +kernel
theorem dX11_record_26 : decode cX11_record 26 = .ok (.aload_n 0, 1) := by decide +kernel
theorem dX11_record_27 : decode cX11_record 27 = .ok (.getfield 124, 3) := by decide +kernel
theorem dX11_record_30 : decode cX11_record 30 = .ok (.bipush 63, 2) := by decide +kernel
theorem dX11_record_32 : decode cX11_record 32 = .ok (.bipush 15, 2) := by decide +kernel
theorem dX11_record_34 : decode cX11_record 34 = .ok (.iload_n 1, 1) := by decide +kernel
theorem dX11_record_35 : decode cX11_record 35 = .ok (.imul, 1) := by decide +kernel
theorem dX11_record_36 : decode cX11_record 36 = .ok (.iadd, 1) := by decide +kernel
theorem dX11_record_37 : decode cX11_record 37 = .ok (.iconst 3, 1) := by decide +kernel
theorem dX11_record_38 : decode cX11_record 38 = .ok (.iload_n 2, 1) := by decide +kernel
theorem dX11_record_39 : decode cX11_record 39 = .ok (.imul, 1) := by decide +kernel
theorem dX11_record_40 : decode cX11_record 40 = .ok (.iadd, 1) := by decide +kernel
theorem dX11_record_41 : decode cX11_record 41 = .ok (.iload_n 3, 1) := by decide +kernel
theorem dX11_record_42 : decode cX11_record 42 = .ok (.iadd, 1) := by decide +kernel
theorem dX11_record_43 : decode cX11_record 43 = .ok (.iaload, 1) := by decide +kernel
theorem dX11_record_44 : decode cX11_record 44 = .ok (.goto 4, 3) := by decide +kernel
theorem dX11_record_47 : decode cX11_record 47 = .ok (.iconst (-1), 1) := by decide +kernel
theorem dX11_record_48 : decode cX11_record 48 = .ok (.ireturn, 1) := by decide +kernel
theorem dX11_easier_0 : decode cX11_easier 0 = .ok (.aload_n 0, 1) := by decide +kernel
theorem dX11_easier_1 : decode cX11_easier 1 = .ok (.iload_n 1, 1) := by decide +kernel
theorem dX11_easier_2 : decode cX11_easier 2 = .ok (.iload_n 2, 1) := by decide +kernel
theorem dX11_easier_3 : decode cX11_easier 3 = .ok (.iconst 0, 1) := by decide +kernel
theorem dX11_easier_4 : decode cX11_easier 4 = .ok (.invokevirtual 569, 3) := by decide +kernel
theorem dX11_easier_7 : decode cX11_easier 7 = .ok (.ifCond .ne 5, 3) := by decide +kernel
theorem dX11_easier_10 : decode cX11_easier 10 = .ok (.iconst (-1), 1) := by decide +kernel
theorem dX11_easier_11 : decode cX11_easier 11 = .ok (.ireturn, 1) := by decide +kernel
theorem dX11_easier_12 : decode cX11_easier 12 = .ok (.iconst 0, 1) := by decide +kernel
theorem dX11_easier_13 : decode cX11_easier 13 = .ok (.istore_n 3, 1) := by decide +kernel
theorem dX11_easier_14 : decode cX11_easier 14 = .ok (.iconst 0, 1) := by decide +kernel
theorem dX11_easier_15 : decode cX11_easier 15 = .ok (.istore 4, 2) := by decide +kernel
theorem dX11_easier_17 : decode cX11_easier 17 = .ok (.iload 4, 2) := by decide +kernel
theorem dX11_easier_19 : decode cX11_easier 19 = .ok (.aload_n 0, 1) := by decide +kernel
theorem dX11_easier_20 : decode cX11_easier 20 = .ok (.getfield 467, 3) := by decide +kernel
theorem dX11_easier_23 : decode cX11_easier 23 = .ok (.if_icmp .ge 46, 3) := by decide +kernel
theorem dX11_easier_26 : decode cX11_easier 26 = .ok (.iload_n 3, 1) := by decide +kernel
theorem dX11_easier_27 : decode cX11_easier 27 = .ok (.aload_n 0, 1) := by decide +kernel
theorem dX11_easier_28 : decode cX11_easier 28 = .ok (.iload_n 1, 1) := by decide +kernel
theorem dX11_easier_29 : decode cX11_easier 29 = .ok (.iload 4, 2) := by decide +kernel
theorem dX11_easier_31 : decode cX11_easier 31 = .ok (.iconst 0, 1) := by decide +kernel
theorem dX11_easier_32 : decode cX11_easier 32 = .ok (.invokevirtual 548, 3) := by decide +kernel
theorem dX11_easier_35 : decode cX11_easier 35 = .ok (.ifCond .eq 25, 3) := by decide +kernel
theorem dX11_easier_38 : decode cX11_easier 38 = .ok (.aload_n 0, 1) := by decide +kernel
theorem dX11_easier_39 : decode cX11_easier 39 = .ok (.iload_n 1, 1) := by decide +kernel
theorem dX11_easier_40 : decode cX11_easier 40 = .ok (.iload 4, 2) := by decide +kernel
theorem dX11_easier_42 : decode cX11_easier 42 = .ok (.iconst 0, 1) := by decide +kernel
theorem dX11_easier_43 : decode cX11_easier 43 = .ok (.invokevirtual 538, 3) := by decide +kernel
theorem dX11_easier_46 : decode cX11_easier 46 = .ok (.aload_n 0, 1) := by decide +kernel
theorem dX11_easier_47 : decode cX11_easier 47 = .ok (.iload_n 1, 1) := by decide +kernel
theorem dX11_easier_48 : decode cX11_easier 48 = .ok (.iload_n 2, 1) := by decide +kernel
theorem dX11_easier_49 : decode cX11_easier 49 = .ok (.iconst 0, 1) := by decide +kernel
theorem dX11_easier_50 : decode cX11_easier 50 = .ok (.invokevirtual 538, 3) := by decide +kernel
theorem dX11_easier_53 : decode cX11_easier 53 = .ok (.if_icmp .le 7, 3) := by decide +kernel
theorem dX11_easier_56 : decode cX11_easier 56 = .ok (.iconst 1, 1) := by decide +kernel
theorem dX11_easier_57 : decode cX11_easier 57 = .ok (.goto 4, 3) := by decide +kernel
theorem dX11_easier_60 : decode cX11_easier 60 = .ok (.iconst 0, 1) := by decide +kernel
theorem dX11_easier_61 : decode cX11_easier 61 = .ok (.iadd, 1) := by decide +kernel
theorem dX11_easier_62 : decode cX11_easier 62 = .ok (.istore_n 3, 1) := by decide +kernel
theorem dX11_easier_63 : decode cX11_easier 63 = .ok (.iinc 4 1, 3) := by decide +kernel
theorem dX11_easier_66 : decode cX11_easier 66 = .ok (.goto (-49), 3) := by decide +kernel
theorem dX11_easier_69 : decode cX11_easier 69 = .ok (.iload_n 3, 1) := by decide +kernel
theorem dX11_easier_70 : decode cX11_easier 70 = .ok (.ireturn, 1) := by decide +kernel
theorem dX11_getsAlone_0 : decode cX11_getsAlone 0 = .ok (.aload_n 0, 1) := by decide +kernel
theorem dX11_getsAlone_1 : decode cX11_getsAlone 1 = .ok (.invokevirtual 566, 3) := by decide +kernel
theorem dX11_getsAlone_4 : decode cX11_getsAlone 4 = .ok (.iconst 0, 1) := by decide +kernel
theorem dX11_getsAlone_5 : decode cX11_getsAlone 5 = .ok (.istore_n 3, 1) := by decide +kernel
theorem dX11_getsAlone_6 : decode cX11_getsAlone 6 = .ok (.iconst 0, 1) := by decide +kernel
theorem dX11_getsAlone_7 : decode cX11_getsAlone 7 = .ok (.istore 4, 2) := by decide +kernel
theorem dX11_getsAlone_9 : decode cX11_getsAlone 9 = .ok (.iload 4, 2) := by decide +kernel
theorem dX11_getsAlone_11 : decode cX11_getsAlone 11 = .ok (.iload_n 2, 1) := by decide +kernel
theorem dX11_getsAlone_12 : decode cX11_getsAlone 12 = .ok (.if_icmp .ge 31, 3) := by decide +kernel
theorem dX11_getsAlone_15 : decode cX11_getsAlone 15 = .ok (.iload_n 3, 1) := by decide +kernel
theorem dX11_getsAlone_16 : decode cX11_getsAlone 16 = .ok (.aload_n 0, 1) := by decide +kernel
theorem dX11_getsAlone_17 : decode cX11_getsAlone 17 = .ok (.iload_n 1, 1) := by decide +kernel
theorem dX11_getsAlone_18 : decode cX11_getsAlone 18 = .ok (.aload_n 0, 1) := by decide +kernel
theorem dX11_getsAlone_19 : decode cX11_getsAlone 19 = .ok (.getfield 112, 3) := by decide +kernel
theorem dX11_getsAlone_22 : decode cX11_getsAlone 22 = .ok (.iload_n 1, 1) := by decide +kernel
theorem dX11_getsAlone_23 : decode cX11_getsAlone 23 = .ok (.iaload, 1) := by decide +kernel
theorem dX11_getsAlone_24 : decode cX11_getsAlone 24 = .ok (.invokevirtual 584, 3) := by decide +kernel
theorem dX11_getsAlone_27 : decode cX11_getsAlone 27 = .ok (.ifCond .eq 7, 3) := by decide +kernel
theorem dX11_getsAlone_30 : decode cX11_getsAlone 30 = .ok (.iconst 1, 1) := by decide +kernel
theorem dX11_getsAlone_31 : decode cX11_getsAlone 31 = .ok (.goto 4, 3) := by decide +kernel
theorem dX11_getsAlone_34 : decode cX11_getsAlone 34 = .ok (.iconst 0, 1) := by decide +kernel
theorem dX11_getsAlone_35 : decode cX11_getsAlone 35 = .ok (.iadd, 1) := by decide +kernel
theorem dX11_getsAlone_36 : decode cX11_getsAlone 36 = .ok (.istore_n 3, 1) := by decide +kernel
theorem dX11_getsAlone_37 : decode cX11_getsAlone 37 = .ok (.iinc 4 1, 3) := by decide +kernel
theorem dX11_getsAlone_40 : decode cX11_getsAlone 40 = .ok (.goto (-31), 3) := by decide +kernel
theorem dX11_getsAlone_43 : decode cX11_getsAlone 43 = .ok (.iload_n 3, 1) := by decide +kernel
theorem dX11_getsAlone_44 : decode cX11_getsAlone 44 = .ok (.ireturn, 1) := by decide +kernel
theorem dX11_seat_0 : decode cX11_seat 0 = .ok (.aload_n 0, 1) := by decide +kernel
theorem dX11_seat_1 : decode cX11_seat 1 = .ok (.iload_n 1, 1) := by decide +kernel
theorem dX11_seat_2 : decode cX11_seat 2 = .ok (.invokevirtual 563, 3) := by decide +kernel
theorem dX11_seat_5 : decode cX11_seat 5 = .ok (.ifCond .eq 22, 3) := by decide +kernel
theorem dX11_seat_8 : decode cX11_seat 8 = .ok (.iload_n 2, 1) := by decide +kernel
theorem dX11_seat_9 : decode cX11_seat 9 = .ok (.iconst 1, 1) := by decide +kernel
theorem dX11_seat_10 : decode cX11_seat 10 = .ok (.bipush 10, 2) := by decide +kernel
theorem dX11_seat_12 : decode cX11_seat 12 = .ok (.invokestatic 494, 3) := by decide +kernel
theorem dX11_seat_15 : decode cX11_seat 15 = .ok (.ifCond .eq 12, 3) := by decide +kernel
theorem dX11_seat_18 : decode cX11_seat 18 = .ok (.iload_n 3, 1) := by decide +kernel
theorem dX11_seat_19 : decode cX11_seat 19 = .ok (.iconst 0, 1) := by decide +kernel
theorem dX11_seat_20 : decode cX11_seat 20 = .ok (.iconst 2, 1) := by decide +kernel
theorem dX11_seat_21 : decode cX11_seat 21 = .ok (.invokestatic 494, 3) := by decide +kernel
theorem dX11_seat_24 : decode cX11_seat 24 = .ok (.ifCond .ne 5, 3) := by decide +kernel
theorem dX11_seat_27 : decode cX11_seat 27 = .ok (.iconst (-1), 1) := by decide +kernel
theorem dX11_seat_28 : decode cX11_seat 28 = .ok (.ireturn, 1) := by decide +kernel
theorem dX11_seat_29 : decode cX11_seat 29 = .ok (.aload_n 0, 1) := by decide +kernel
theorem dX11_seat_30 : decode cX11_seat 30 = .ok (.getfield 97, 3) := by decide +kernel
theorem dX11_seat_33 : decode cX11_seat 33 = .ok (.iload_n 1, 1) := by decide +kernel
theorem dX11_seat_34 : decode cX11_seat 34 = .ok (.iaload, 1) := by decide +kernel
theorem dX11_seat_35 : decode cX11_seat 35 = .ok (.istore 4, 2) := by decide +kernel
theorem dX11_seat_37 : decode cX11_seat 37 = .ok (.aload_n 0, 1) := by decide +kernel
theorem dX11_seat_38 : decode cX11_seat 38 = .ok (.getfield 100, 3) := by decide +kernel
theorem dX11_seat_41 : decode cX11_seat 41 = .ok (.iload_n 1, 1) := by decide +kernel
theorem dX11_seat_42 : decode cX11_seat 42 = .ok (.iaload, 1) := by decide +kernel
theorem dX11_seat_43 : decode cX11_seat 43 = .ok (.istore 5, 2) := by decide +kernel
theorem dX11_seat_45 : decode cX11_seat 45 = .ok (.iconst (-1), 1) := by decide +kernel
theorem dX11_seat_46 : decode cX11_seat 46 = .ok (.istore 6, 2) := by decide +kernel
theorem dX11_seat_48 : decode cX11_seat 48 = .ok (.iconst (-1), 1) := by decide +kernel
theorem dX11_seat_49 : decode cX11_seat 49 = .ok (.istore 7, 2) := by decide +kernel
theorem dX11_seat_51 : decode cX11_seat 51 = .ok (.iconst 0, 1) := by decide +kernel
theorem dX11_seat_52 : decode cX11_seat 52 = .ok (.istore 8, 2) := by decide +kernel
theorem dX11_seat_54 : decode cX11_seat 54 = .ok (.iload 8, 2) := by decide +kernel
theorem dX11_seat_56 : decode cX11_seat 56 = .ok (.aload_n 0, 1) := by decide +kernel
theorem dX11_seat_57 : decode cX11_seat 57 = .ok (.getfield 455, 3) := by decide +kernel
theorem dX11_seat_60 : decode cX11_seat 60 = .ok (.aload_n 0, 1) := by decide +kernel
theorem dX11_seat_61 : decode cX11_seat 61 = .ok (.getfield 458, 3) := by decide +kernel
theorem dX11_seat_64 : decode cX11_seat 64 = .ok (.imul, 1) := by decide +kernel
theorem dX11_seat_65 : decode cX11_seat 65 = .ok (.if_icmp .ge 104, 3) := by decide +kernel
theorem dX11_seat_68 : decode cX11_seat 68 = .ok (.iload 8, 2) := by decide +kernel
theorem dX11_seat_70 : decode cX11_seat 70 = .ok (.aload_n 0, 1) := by decide +kernel
theorem dX11_seat_71 : decode cX11_seat 71 = .ok (.getfield 455, 3) := by decide +kernel
theorem dX11_seat_74 : decode cX11_seat 74 = .ok (.irem, 1) := by decide +kernel
theorem dX11_seat_75 : decode cX11_seat 75 = .ok (.istore 9, 2) := by decide +kernel
theorem dX11_seat_77 : decode cX11_seat 77 = .ok (.iload 8, 2) := by decide +kernel
theorem dX11_seat_79 : decode cX11_seat 79 = .ok (.aload_n 0, 1) := by decide +kernel
theorem dX11_seat_80 : decode cX11_seat 80 = .ok (.getfield 455, 3) := by decide +kernel
theorem dX11_seat_83 : decode cX11_seat 83 = .ok (.idiv, 1) := by decide +kernel
theorem dX11_seat_84 : decode cX11_seat 84 = .ok (.istore 10, 2) := by decide +kernel
theorem dX11_seat_86 : decode cX11_seat 86 = .ok (.iload 9, 2) := by decide +kernel
theorem dX11_seat_88 : decode cX11_seat 88 = .ok (.ifCond .le 33, 3) := by decide +kernel
theorem dX11_seat_91 : decode cX11_seat 91 = .ok (.iload 9, 2) := by decide +kernel
theorem dX11_seat_93 : decode cX11_seat 93 = .ok (.aload_n 0, 1) := by decide +kernel
theorem dX11_seat_94 : decode cX11_seat 94 = .ok (.getfield 455, 3) := by decide +kernel
theorem dX11_seat_97 : decode cX11_seat 97 = .ok (.iconst 1, 1) := by decide +kernel
theorem dX11_seat_98 : decode cX11_seat 98 = .ok (.isub, 1) := by decide +kernel
theorem dX11_seat_99 : decode cX11_seat 99 = .ok (.if_icmp .ge 22, 3) := by decide +kernel
theorem dX11_seat_102 : decode cX11_seat 102 = .ok (.iload 10, 2) := by decide +kernel
theorem dX11_seat_104 : decode cX11_seat 104 = .ok (.ifCond .le 17, 3) := by decide +kernel
theorem dX11_seat_107 : decode cX11_seat 107 = .ok (.iload 10, 2) := by decide +kernel
theorem dX11_seat_109 : decode cX11_seat 109 = .ok (.aload_n 0, 1) := by decide +kernel
theorem dX11_seat_110 : decode cX11_seat 110 = .ok (.getfield 458, 3) := by decide +kernel
theorem dX11_seat_113 : decode cX11_seat 113 = .ok (.iconst 1, 1) := by decide +kernel
theorem dX11_seat_114 : decode cX11_seat 114 = .ok (.isub, 1) := by decide +kernel
theorem dX11_seat_115 : decode cX11_seat 115 = .ok (.if_icmp .ge 6, 3) := by decide +kernel
theorem dX11_seat_118 : decode cX11_seat 118 = .ok (.goto 45, 3) := by decide +kernel
theorem dX11_seat_121 : decode cX11_seat 121 = .ok (.aload_n 0, 1) := by decide +kernel
theorem dX11_seat_122 : decode cX11_seat 122 = .ok (.getfield 97, 3) := by decide +kernel
theorem dX11_seat_125 : decode cX11_seat 125 = .ok (.iload_n 1, 1) := by decide +kernel
theorem dX11_seat_126 : decode cX11_seat 126 = .ok (.iload 9, 2) := by decide +kernel
theorem dX11_seat_128 : decode cX11_seat 128 = .ok (.iastore, 1) := by decide +kernel
theorem dX11_seat_129 : decode cX11_seat 129 = .ok (.aload_n 0, 1) := by decide +kernel
theorem dX11_seat_130 : decode cX11_seat 130 = .ok (.getfield 100, 3) := by decide +kernel
theorem dX11_seat_133 : decode cX11_seat 133 = .ok (.iload_n 1, 1) := by decide +kernel
theorem dX11_seat_134 : decode cX11_seat 134 = .ok (.iload 10, 2) := by decide +kernel
theorem dX11_seat_136 : decode cX11_seat 136 = .ok (.iastore, 1) := by decide +kernel
theorem dX11_seat_137 : decode cX11_seat 137 = .ok (.aload_n 0, 1) := by decide +kernel
theorem dX11_seat_138 : decode cX11_seat 138 = .ok (.iload_n 1, 1) := by decide +kernel
theorem dX11_seat_139 : decode cX11_seat 139 = .ok (.iload_n 2, 1) := by decide +kernel
theorem dX11_seat_140 : decode cX11_seat 140 = .ok (.invokevirtual 609, 3) := by decide +kernel
theorem dX11_seat_143 : decode cX11_seat 143 = .ok (.istore 11, 2) := by decide +kernel
theorem dX11_seat_145 : decode cX11_seat 145 = .ok (.iload 11, 2) := by decide +kernel
theorem dX11_seat_147 : decode cX11_seat 147 = .ok (.iload 7, 2) := by decide +kernel
theorem dX11_seat_149 : decode cX11_seat 149 = .ok (.if_icmp .gt 6, 3) := by decide +kernel
theorem dX11_seat_152 : decode cX11_seat 152 = .ok (.goto 11, 3) := by decide +kernel
theorem dX11_seat_155 : decode cX11_seat 155 = .ok (.iload 8, 2) := by decide +kernel
theorem dX11_seat_157 : decode cX11_seat 157 = .ok (.istore 6, 2) := by decide +kernel
theorem dX11_seat_159 : decode cX11_seat 159 = .ok (.iload 11, 2) := by decide +kernel
theorem dX11_seat_161 : decode cX11_seat 161 = .ok (.istore 7, 2) := by decide +kernel
theorem dX11_seat_163 : decode cX11_seat 163 = .ok (.iinc 8 1, 3) := by decide +kernel
theorem dX11_seat_166 : decode cX11_seat 166 = .ok (.goto (-112), 3) := by decide +kernel
theorem dX11_seat_169 : decode cX11_seat 169 = .ok (.aload_n 0, 1) := by decide +kernel
theorem dX11_seat_170 : decode cX11_seat 170 = .ok (.getfield 97, 3) := by decide +kernel
theorem dX11_seat_173 : decode cX11_seat 173 = .ok (.iload_n 1, 1) := by decide +kernel
theorem dX11_seat_174 : decode cX11_seat 174 = .ok (.iload 4, 2) := by decide +kernel
theorem dX11_seat_176 : decode cX11_seat 176 = .ok (.iastore, 1) := by decide +kernel
theorem dX11_seat_177 : decode cX11_seat 177 = .ok (.aload_n 0, 1) := by decide +kernel
theorem dX11_seat_178 : decode cX11_seat 178 = .ok (.getfield 100, 3) := by decide +kernel
theorem dX11_seat_181 : decode cX11_seat 181 = .ok (.iload_n 1, 1) := by decide +kernel
theorem dX11_seat_182 : decode cX11_seat 182 = .ok (.iload 5, 2) := by decide +kernel
theorem dX11_seat_184 : decode cX11_seat 184 = .ok (.iastore, 1) := by decide +kernel
theorem dX11_seat_185 : decode cX11_seat 185 = .ok (.iload_n 3, 1) := by decide +kernel
theorem dX11_seat_186 : decode cX11_seat 186 = .ok (.ifCond .ne 13, 3) := by decide +kernel
theorem dX11_seat_189 : decode cX11_seat 189 = .ok (.iload 6, 2) := by decide +kernel
theorem dX11_seat_191 : decode cX11_seat 191 = .ok (.aload_n 0, 1) := by decide +kernel
theorem dX11_seat_192 : decode cX11_seat 192 = .ok (.getfield 455, 3) := by decide +kernel
theorem dX11_seat_195 : decode cX11_seat 195 = .ok (.irem, 1) := by decide +kernel
theorem dX11_seat_196 : decode cX11_seat 196 = .ok (.goto 20, 3) := by decide +kernel
theorem dX11_seat_199 : decode cX11_seat 199 = .ok (.iload_n 3, 1) := by decide +kernel
theorem dX11_seat_200 : decode cX11_seat 200 = .ok (.iconst 1, 1) := by decide +kernel
theorem dX11_seat_201 : decode cX11_seat 201 = .ok (.if_icmp .ne 13, 3) := by decide +kernel
theorem dX11_seat_204 : decode cX11_seat 204 = .ok (.iload 6, 2) := by decide +kernel
theorem dX11_seat_206 : decode cX11_seat 206 = .ok (.aload_n 0, 1) := by decide +kernel
theorem dX11_seat_207 : decode cX11_seat 207 = .ok (.getfield 455, 3) := by decide +kernel
theorem dX11_seat_210 : decode cX11_seat 210 = .ok (.idiv, 1) := by decide +kernel
theorem dX11_seat_211 : decode cX11_seat 211 = .ok (.goto 5, 3) := by decide +kernel
theorem dX11_seat_214 : decode cX11_seat 214 = .ok (.iload 7, 2) := by decide +kernel
theorem dX11_seat_216 : decode cX11_seat 216 = .ok (.ireturn, 1) := by decide +kernel
theorem dX11_layTurn_0 : decode cX11_layTurn 0 = .ok (.iconst 0, 1) := by decide +kernel
theorem dX11_layTurn_1 : decode cX11_layTurn 1 = .ok (.istore_n 2, 1) := by decide +kernel
theorem dX11_layTurn_2 : decode cX11_layTurn 2 = .ok (.aload_n 0, 1) := by decide +kernel
theorem dX11_layTurn_3 : decode cX11_layTurn 3 = .ok (.getfield 470, 3) := by decide +kernel
theorem dX11_layTurn_6 : decode cX11_layTurn 6 = .ok (.iconst 1, 1) := by decide +kernel
theorem dX11_layTurn_7 : decode cX11_layTurn 7 = .ok (.isub, 1) := by decide +kernel
theorem dX11_layTurn_8 : decode cX11_layTurn 8 = .ok (.istore_n 3, 1) := by decide +kernel
theorem dX11_layTurn_9 : decode cX11_layTurn 9 = .ok (.iload_n 3, 1) := by decide +kernel
theorem dX11_layTurn_10 : decode cX11_layTurn 10 = .ok (.ifCond .lt 40, 3) := by decide +kernel
theorem dX11_layTurn_13 : decode cX11_layTurn 13 = .ok (.aload_n 0, 1) := by decide +kernel
theorem dX11_layTurn_14 : decode cX11_layTurn 14 = .ok (.getfield 151, 3) := by decide +kernel
theorem dX11_layTurn_17 : decode cX11_layTurn 17 = .ok (.iload_n 3, 1) := by decide +kernel
theorem dX11_layTurn_18 : decode cX11_layTurn 18 = .ok (.iload_n 1, 1) := by decide +kernel
theorem dX11_layTurn_19 : decode cX11_layTurn 19 = .ok (.iconst 2, 1) := by decide +kernel
theorem dX11_layTurn_20 : decode cX11_layTurn 20 = .ok (.aload_n 0, 1) := by decide +kernel
theorem dX11_layTurn_21 : decode cX11_layTurn 21 = .ok (.getfield 470, 3) := by decide +kernel
theorem dX11_layTurn_24 : decode cX11_layTurn 24 = .ok (.iconst 1, 1) := by decide +kernel
theorem dX11_layTurn_25 : decode cX11_layTurn 25 = .ok (.isub, 1) := by decide +kernel
theorem dX11_layTurn_26 : decode cX11_layTurn 26 = .ok (.iload_n 3, 1) := by decide +kernel
theorem dX11_layTurn_27 : decode cX11_layTurn 27 = .ok (.isub, 1) := by decide +kernel
theorem dX11_layTurn_28 : decode cX11_layTurn 28 = .ok (.imul, 1) := by decide +kernel
theorem dX11_layTurn_29 : decode cX11_layTurn 29 = .ok (.ishr, 1) := by decide +kernel
theorem dX11_layTurn_30 : decode cX11_layTurn 30 = .ok (.iconst 3, 1) := by decide +kernel
theorem dX11_layTurn_31 : decode cX11_layTurn 31 = .ok (.iand, 1) := by decide +kernel
theorem dX11_layTurn_32 : decode cX11_layTurn 32 = .ok (.iastore, 1) := by decide +kernel
theorem dX11_layTurn_33 : decode cX11_layTurn 33 = .ok (.iload_n 2, 1) := by decide +kernel
theorem dX11_layTurn_34 : decode cX11_layTurn 34 = .ok (.iconst 1, 1) := by decide +kernel
theorem dX11_layTurn_35 : decode cX11_layTurn 35 = .ok (.aload_n 0, 1) := by decide +kernel
theorem dX11_layTurn_36 : decode cX11_layTurn 36 = .ok (.getfield 151, 3) := by decide +kernel
theorem dX11_layTurn_39 : decode cX11_layTurn 39 = .ok (.iload_n 3, 1) := by decide +kernel
theorem dX11_layTurn_40 : decode cX11_layTurn 40 = .ok (.iaload, 1) := by decide +kernel
theorem dX11_layTurn_41 : decode cX11_layTurn 41 = .ok (.ishl, 1) := by decide +kernel
theorem dX11_layTurn_42 : decode cX11_layTurn 42 = .ok (.ior, 1) := by decide +kernel
theorem dX11_layTurn_43 : decode cX11_layTurn 43 = .ok (.istore_n 2, 1) := by decide +kernel
theorem dX11_layTurn_44 : decode cX11_layTurn 44 = .ok (.iinc 3 (-1), 3) := by decide +kernel
theorem dX11_layTurn_47 : decode cX11_layTurn 47 = .ok (.goto (-38), 3) := by decide +kernel
theorem dX11_layTurn_50 : decode cX11_layTurn 50 = .ok (.iload_n 2, 1) := by decide +kernel
theorem dX11_layTurn_51 : decode cX11_layTurn 51 = .ok (.iconst 1, 1) := by decide +kernel
theorem dX11_layTurn_52 : decode cX11_layTurn 52 = .ok (.aload_n 0, 1) := by decide +kernel
theorem dX11_layTurn_53 : decode cX11_layTurn 53 = .ok (.getfield 470, 3) := by decide +kernel
theorem dX11_layTurn_56 : decode cX11_layTurn 56 = .ok (.ishl, 1) := by decide +kernel
theorem dX11_layTurn_57 : decode cX11_layTurn 57 = .ok (.iconst 1, 1) := by decide +kernel
theorem dX11_layTurn_58 : decode cX11_layTurn 58 = .ok (.isub, 1) := by decide +kernel
theorem dX11_layTurn_59 : decode cX11_layTurn 59 = .ok (.if_icmp .ne 7, 3) := by decide +kernel
theorem dX11_layTurn_62 : decode cX11_layTurn 62 = .ok (.iconst 1, 1) := by decide +kernel
theorem dX11_layTurn_63 : decode cX11_layTurn 63 = .ok (.goto 4, 3) := by decide +kernel
theorem dX11_layTurn_66 : decode cX11_layTurn 66 = .ok (.iconst 0, 1) := by decide +kernel
theorem dX11_layTurn_67 : decode cX11_layTurn 67 = .ok (.ireturn, 1) := by decide +kernel
theorem dX11_order_0 : decode cX11_order 0 = .ok (.aload_n 0, 1) := by decide +kernel
theorem dX11_order_1 : decode cX11_order 1 = .ok (.iconst 0, 1) := by decide +kernel
theorem dX11_order_2 : decode cX11_order 2 = .ok (.putfield 491, 3) := by decide +kernel
theorem dX11_order_5 : decode cX11_order 5 = .ok (.iload_n 1, 1) := by decide +kernel
theorem dX11_order_6 : decode cX11_order 6 = .ok (.iconst 1, 1) := by decide +kernel
theorem dX11_order_7 : decode cX11_order 7 = .ok (.bipush 10, 2) := by decide +kernel
theorem dX11_order_9 : decode cX11_order 9 = .ok (.invokestatic 494, 3) := by decide +kernel
theorem dX11_order_12 : decode cX11_order 12 = .ok (.ifCond .ne 5, 3) := by decide +kernel
theorem dX11_order_15 : decode cX11_order 15 = .ok (.iconst (-1), 1) := by decide +kernel
theorem dX11_order_16 : decode cX11_order 16 = .ok (.ireturn, 1) := by decide +kernel
theorem dX11_order_17 : decode cX11_order 17 = .ok (.iconst (-1), 1) := by decide +kernel
theorem dX11_order_18 : decode cX11_order 18 = .ok (.istore_n 2, 1) := by decide +kernel
theorem dX11_order_19 : decode cX11_order 19 = .ok (.iconst 0, 1) := by decide +kernel
theorem dX11_order_20 : decode cX11_order 20 = .ok (.istore_n 3, 1) := by decide +kernel
theorem dX11_order_21 : decode cX11_order 21 = .ok (.iload_n 3, 1) := by decide +kernel
theorem dX11_order_22 : decode cX11_order 22 = .ok (.iconst 1, 1) := by decide +kernel
theorem dX11_order_23 : decode cX11_order 23 = .ok (.iconst 2, 1) := by decide +kernel
theorem dX11_order_24 : decode cX11_order 24 = .ok (.aload_n 0, 1) := by decide +kernel
theorem dX11_order_25 : decode cX11_order 25 = .ok (.getfield 470, 3) := by decide +kernel
theorem dX11_order_28 : decode cX11_order 28 = .ok (.imul, 1) := by decide +kernel
theorem dX11_order_29 : decode cX11_order 29 = .ok (.ishl, 1) := by decide +kernel
theorem dX11_order_30 : decode cX11_order 30 = .ok (.if_icmp .ge 148, 3) := by decide +kernel
theorem dX11_order_33 : decode cX11_order 33 = .ok (.aload_n 0, 1) := by decide +kernel
theorem dX11_order_34 : decode cX11_order 34 = .ok (.iload_n 3, 1) := by decide +kernel
theorem dX11_order_35 : decode cX11_order 35 = .ok (.invokevirtual 612, 3) := by decide +kernel
theorem dX11_order_38 : decode cX11_order 38 = .ok (.ifCond .ne 6, 3) := by decide +kernel
theorem dX11_order_41 : decode cX11_order 41 = .ok (.goto 131, 3) := by decide +kernel
theorem dX11_order_44 : decode cX11_order 44 = .ok (.aload_n 0, 1) := by decide +kernel
theorem dX11_order_45 : decode cX11_order 45 = .ok (.invokevirtual 566, 3) := by decide +kernel
theorem dX11_order_48 : decode cX11_order 48 = .ok (.iconst 0, 1) := by decide +kernel
theorem dX11_order_49 : decode cX11_order 49 = .ok (.istore 4, 2) := by decide +kernel
theorem dX11_order_51 : decode cX11_order 51 = .ok (.iconst 0, 1) := by decide +kernel
theorem dX11_order_52 : decode cX11_order 52 = .ok (.istore 5, 2) := by decide +kernel
theorem dX11_order_54 : decode cX11_order 54 = .ok (.iload 5, 2) := by decide +kernel
theorem dX11_order_56 : decode cX11_order 56 = .ok (.iload_n 1, 1) := by decide +kernel
theorem dX11_order_57 : decode cX11_order 57 = .ok (.if_icmp .ge 63, 3) := by decide +kernel
theorem dX11_order_60 : decode cX11_order 60 = .ok (.iconst 0, 1) := by decide +kernel
theorem dX11_order_61 : decode cX11_order 61 = .ok (.istore 6, 2) := by decide +kernel
theorem dX11_order_63 : decode cX11_order 63 = .ok (.iload 6, 2) := by decide +kernel
theorem dX11_order_65 : decode cX11_order 65 = .ok (.aload_n 0, 1) := by decide +kernel
theorem dX11_order_66 : decode cX11_order 66 = .ok (.getfield 470, 3) := by decide +kernel
theorem dX11_order_69 : decode cX11_order 69 = .ok (.if_icmp .ge 45, 3) := by decide +kernel
theorem dX11_order_72 : decode cX11_order 72 = .ok (.iload 4, 2) := by decide +kernel
theorem dX11_order_74 : decode cX11_order 74 = .ok (.aload_n 0, 1) := by decide +kernel
theorem dX11_order_75 : decode cX11_order 75 = .ok (.aload_n 0, 1) := by decide +kernel
theorem dX11_order_76 : decode cX11_order 76 = .ok (.getfield 151, 3) := by decide +kernel
theorem dX11_order_79 : decode cX11_order 79 = .ok (.iload 6, 2) := by decide +kernel
theorem dX11_order_81 : decode cX11_order 81 = .ok (.iaload, 1) := by decide +kernel
theorem dX11_order_82 : decode cX11_order 82 = .ok (.aload_n 0, 1) := by decide +kernel
theorem dX11_order_83 : decode cX11_order 83 = .ok (.getfield 112, 3) := by decide +kernel
theorem dX11_order_86 : decode cX11_order 86 = .ok (.aload_n 0, 1) := by decide +kernel
theorem dX11_order_87 : decode cX11_order 87 = .ok (.getfield 151, 3) := by decide +kernel
theorem dX11_order_90 : decode cX11_order 90 = .ok (.iload 6, 2) := by decide +kernel
theorem dX11_order_92 : decode cX11_order 92 = .ok (.iaload, 1) := by decide +kernel
theorem dX11_order_93 : decode cX11_order 93 = .ok (.iaload, 1) := by decide +kernel
theorem dX11_order_94 : decode cX11_order 94 = .ok (.invokevirtual 584, 3) := by decide +kernel
theorem dX11_order_97 : decode cX11_order 97 = .ok (.ifCond .eq 7, 3) := by decide +kernel
theorem dX11_order_100 : decode cX11_order 100 = .ok (.iconst 1, 1) := by decide +kernel
theorem dX11_order_101 : decode cX11_order 101 = .ok (.goto 4, 3) := by decide +kernel
theorem dX11_order_104 : decode cX11_order 104 = .ok (.iconst 0, 1) := by decide +kernel
theorem dX11_order_105 : decode cX11_order 105 = .ok (.iadd, 1) := by decide +kernel
theorem dX11_order_106 : decode cX11_order 106 = .ok (.istore 4, 2) := by decide +kernel
theorem dX11_order_108 : decode cX11_order 108 = .ok (.iinc 6 1, 3) := by decide +kernel
theorem dX11_order_111 : decode cX11_order 111 = .ok (.goto (-48), 3) := by decide +kernel
theorem dX11_order_114 : decode cX11_order 114 = .ok (.iinc 5 1, 3) := by decide +kernel
theorem dX11_order_117 : decode cX11_order 117 = .ok (.goto (-63), 3) := by decide +kernel
theorem dX11_order_120 : decode cX11_order 120 = .ok (.iload 4, 2) := by decide +kernel
theorem dX11_order_122 : decode cX11_order 122 = .ok (.iload_n 2, 1) := by decide +kernel
theorem dX11_order_123 : decode cX11_order 123 = .ok (.if_icmp .gt 6, 3) := by decide +kernel
theorem dX11_order_126 : decode cX11_order 126 = .ok (.goto 46, 3) := by decide +kernel
theorem dX11_order_129 : decode cX11_order 129 = .ok (.iload 4, 2) := by decide +kernel
theorem dX11_order_131 : decode cX11_order 131 = .ok (.istore_n 2, 1) := by decide +kernel
theorem dX11_order_132 : decode cX11_order 132 = .ok (.iconst 0, 1) := by decide +kernel
theorem dX11_order_133 : decode cX11_order 133 = .ok (.istore 5, 2) := by decide +kernel
theorem dX11_order_135 : decode cX11_order 135 = .ok (.iload 5, 2) := by decide +kernel
theorem dX11_order_137 : decode cX11_order 137 = .ok (.aload_n 0, 1) := by decide +kernel
theorem dX11_order_138 : decode cX11_order 138 = .ok (.getfield 470, 3) := by decide +kernel
theorem dX11_order_141 : decode cX11_order 141 = .ok (.if_icmp .ge 23, 3) := by decide +kernel
theorem dX11_order_144 : decode cX11_order 144 = .ok (.aload_n 0, 1) := by decide +kernel
theorem dX11_order_145 : decode cX11_order 145 = .ok (.getfield 157, 3) := by decide +kernel
theorem dX11_order_148 : decode cX11_order 148 = .ok (.iload 5, 2) := by decide +kernel
theorem dX11_order_150 : decode cX11_order 150 = .ok (.aload_n 0, 1) := by decide +kernel
theorem dX11_order_151 : decode cX11_order 151 = .ok (.getfield 151, 3) := by decide +kernel
theorem dX11_order_154 : decode cX11_order 154 = .ok (.iload 5, 2) := by decide +kernel
theorem dX11_order_156 : decode cX11_order 156 = .ok (.iaload, 1) := by decide +kernel
theorem dX11_order_157 : decode cX11_order 157 = .ok (.iastore, 1) := by decide +kernel
theorem dX11_order_158 : decode cX11_order 158 = .ok (.iinc 5 1, 3) := by decide +kernel
theorem dX11_order_161 : decode cX11_order 161 = .ok (.goto (-26), 3) := by decide +kernel
theorem dX11_order_164 : decode cX11_order 164 = .ok (.aload_n 0, 1) := by decide +kernel
theorem dX11_order_165 : decode cX11_order 165 = .ok (.aload_n 0, 1) := by decide +kernel
theorem dX11_order_166 : decode cX11_order 166 = .ok (.getfield 470, 3) := by decide +kernel
theorem dX11_order_169 : decode cX11_order 169 = .ok (.putfield 491, 3) := by decide +kernel
theorem dX11_order_172 : decode cX11_order 172 = .ok (.iinc 3 1, 3) := by decide +kernel
theorem dX11_order_175 : decode cX11_order 175 = .ok (.goto (-154), 3) := by decide +kernel
theorem dX11_order_178 : decode cX11_order 178 = .ok (.iload_n 2, 1) := by decide +kernel
theorem dX11_order_179 : decode cX11_order 179 = .ok (.ireturn, 1) := by decide +kernel
theorem dX11_doesDrive_0 : decode cX11_doesDrive 0 = .ok (.aload_n 0, 1) := by decide +kernel
theorem dX11_doesDrive_1 : decode cX11_doesDrive 1 = .ok (.invokevirtual 566, 3) := by decide +kernel
theorem dX11_doesDrive_4 : decode cX11_doesDrive 4 = .ok (.iload 5, 2) := by decide +kernel
theorem dX11_doesDrive_6 : decode cX11_doesDrive 6 = .ok (.istore 6, 2) := by decide +kernel
theorem dX11_doesDrive_8 : decode cX11_doesDrive 8 = .ok (.iload 4, 2) := by decide +kernel
theorem dX11_doesDrive_10 : decode cX11_doesDrive 10 = .ok (.iconst 1, 1) := by decide +kernel
theorem dX11_doesDrive_11 : decode cX11_doesDrive 11 = .ok (.isub, 1) := by decide +kernel
theorem dX11_doesDrive_12 : decode cX11_doesDrive 12 = .ok (.istore 7, 2) := by decide +kernel
theorem dX11_doesDrive_14 : decode cX11_doesDrive 14 = .ok (.iload 7, 2) := by decide +kernel
theorem dX11_doesDrive_16 : decode cX11_doesDrive 16 = .ok (.ifCond .lt 32, 3) := by decide +kernel
theorem dX11_doesDrive_19 : decode cX11_doesDrive 19 = .ok (.aload_n 0, 1) := by decide +kernel
theorem dX11_doesDrive_20 : decode cX11_doesDrive 20 = .ok (.getfield 154, 3) := by decide +kernel
theorem dX11_doesDrive_23 : decode cX11_doesDrive 23 = .ok (.iload 7, 2) := by decide +kernel
theorem dX11_doesDrive_25 : decode cX11_doesDrive 25 = .ok (.iload 6, 2) := by decide +kernel
theorem dX11_doesDrive_27 : decode cX11_doesDrive 27 = .ok (.aload_n 0, 1) := by decide +kernel
theorem dX11_doesDrive_28 : decode cX11_doesDrive 28 = .ok (.getfield 467, 3) := by decide +kernel
theorem dX11_doesDrive_31 : decode cX11_doesDrive 31 = .ok (.irem, 1) := by decide +kernel
theorem dX11_doesDrive_32 : decode cX11_doesDrive 32 = .ok (.iastore, 1) := by decide +kernel
theorem dX11_doesDrive_33 : decode cX11_doesDrive 33 = .ok (.iload 6, 2) := by decide +kernel
theorem dX11_doesDrive_35 : decode cX11_doesDrive 35 = .ok (.aload_n 0, 1) := by decide +kernel
theorem dX11_doesDrive_36 : decode cX11_doesDrive 36 = .ok (.getfield 467, 3) := by decide +kernel
theorem dX11_doesDrive_39 : decode cX11_doesDrive 39 = .ok (.idiv, 1) := by decide +kernel
theorem dX11_doesDrive_40 : decode cX11_doesDrive 40 = .ok (.istore 6, 2) := by decide +kernel
theorem dX11_doesDrive_42 : decode cX11_doesDrive 42 = .ok (.iinc 7 (-1), 3) := by decide +kernel
theorem dX11_doesDrive_45 : decode cX11_doesDrive 45 = .ok (.goto (-31), 3) := by decide +kernel
theorem dX11_doesDrive_48 : decode cX11_doesDrive 48 = .ok (.iconst 0, 1) := by decide +kernel
theorem dX11_doesDrive_49 : decode cX11_doesDrive 49 = .ok (.istore 7, 2) := by decide +kernel
theorem dX11_doesDrive_51 : decode cX11_doesDrive 51 = .ok (.iload 7, 2) := by decide +kernel
theorem dX11_doesDrive_53 : decode cX11_doesDrive 53 = .ok (.iload 4, 2) := by decide +kernel
theorem dX11_doesDrive_55 : decode cX11_doesDrive 55 = .ok (.if_icmp .ge 40, 3) := by decide +kernel
theorem dX11_doesDrive_58 : decode cX11_doesDrive 58 = .ok (.aload_n 0, 1) := by decide +kernel
theorem dX11_doesDrive_59 : decode cX11_doesDrive 59 = .ok (.iload_n 1, 1) := by decide +kernel
theorem dX11_doesDrive_60 : decode cX11_doesDrive 60 = .ok (.aload_n 0, 1) := by decide +kernel
theorem dX11_doesDrive_61 : decode cX11_doesDrive 61 = .ok (.getfield 154, 3) := by decide +kernel
theorem dX11_doesDrive_64 : decode cX11_doesDrive 64 = .ok (.iload 7, 2) := by decide +kernel
theorem dX11_doesDrive_66 : decode cX11_doesDrive 66 = .ok (.iaload, 1) := by decide +kernel
theorem dX11_doesDrive_67 : decode cX11_doesDrive 67 = .ok (.iconst 0, 1) := by decide +kernel
theorem dX11_doesDrive_68 : decode cX11_doesDrive 68 = .ok (.invokevirtual 548, 3) := by decide +kernel
theorem dX11_doesDrive_71 : decode cX11_doesDrive 71 = .ok (.ifCond .ne 5, 3) := by decide +kernel
theorem dX11_doesDrive_74 : decode cX11_doesDrive 74 = .ok (.iconst 0, 1) := by decide +kernel
theorem dX11_doesDrive_75 : decode cX11_doesDrive 75 = .ok (.ireturn, 1) := by decide +kernel
theorem dX11_doesDrive_76 : decode cX11_doesDrive 76 = .ok (.aload_n 0, 1) := by decide +kernel
theorem dX11_doesDrive_77 : decode cX11_doesDrive 77 = .ok (.iload_n 1, 1) := by decide +kernel
theorem dX11_doesDrive_78 : decode cX11_doesDrive 78 = .ok (.aload_n 0, 1) := by decide +kernel
theorem dX11_doesDrive_79 : decode cX11_doesDrive 79 = .ok (.getfield 154, 3) := by decide +kernel
theorem dX11_doesDrive_82 : decode cX11_doesDrive 82 = .ok (.iload 7, 2) := by decide +kernel
theorem dX11_doesDrive_84 : decode cX11_doesDrive 84 = .ok (.iaload, 1) := by decide +kernel
theorem dX11_doesDrive_85 : decode cX11_doesDrive 85 = .ok (.iconst 0, 1) := by decide +kernel
theorem dX11_doesDrive_86 : decode cX11_doesDrive 86 = .ok (.invokevirtual 545, 3) := by decide +kernel
theorem dX11_doesDrive_89 : decode cX11_doesDrive 89 = .ok (.iinc 7 1, 3) := by decide +kernel
theorem dX11_doesDrive_92 : decode cX11_doesDrive 92 = .ok (.goto (-41), 3) := by decide +kernel
theorem dX11_doesDrive_95 : decode cX11_doesDrive 95 = .ok (.aload_n 0, 1) := by decide +kernel
theorem dX11_doesDrive_96 : decode cX11_doesDrive 96 = .ok (.iload_n 2, 1) := by decide +kernel
theorem dX11_doesDrive_97 : decode cX11_doesDrive 97 = .ok (.iload_n 3, 1) := by decide +kernel
theorem dX11_doesDrive_98 : decode cX11_doesDrive 98 = .ok (.iconst 0, 1) := by decide +kernel
theorem dX11_doesDrive_99 : decode cX11_doesDrive 99 = .ok (.invokevirtual 548, 3) := by decide +kernel
theorem dX11_doesDrive_102 : decode cX11_doesDrive 102 = .ok (.ireturn, 1) := by decide +kernel
theorem dX11_drives_0 : decode cX11_drives 0 = .ok (.aload_n 0, 1) := by decide +kernel
theorem dX11_drives_1 : decode cX11_drives 1 = .ok (.iconst 0, 1) := by decide +kernel
theorem dX11_drives_2 : decode cX11_drives 2 = .ok (.putfield 491, 3) := by decide +kernel
theorem dX11_drives_5 : decode cX11_drives 5 = .ok (.aload_n 0, 1) := by decide +kernel
theorem dX11_drives_6 : decode cX11_drives 6 = .ok (.invokevirtual 566, 3) := by decide +kernel
theorem dX11_drives_9 : decode cX11_drives 9 = .ok (.aload_n 0, 1) := by decide +kernel
theorem dX11_drives_10 : decode cX11_drives 10 = .ok (.iload_n 1, 1) := by decide +kernel
theorem dX11_drives_11 : decode cX11_drives 11 = .ok (.invokevirtual 563, 3) := by decide +kernel
theorem dX11_drives_14 : decode cX11_drives 14 = .ok (.ifCond .eq 32, 3) := by decide +kernel
theorem dX11_drives_17 : decode cX11_drives 17 = .ok (.aload_n 0, 1) := by decide +kernel
theorem dX11_drives_18 : decode cX11_drives 18 = .ok (.iload_n 2, 1) := by decide +kernel
theorem dX11_drives_19 : decode cX11_drives 19 = .ok (.invokevirtual 563, 3) := by decide +kernel
theorem dX11_drives_22 : decode cX11_drives 22 = .ok (.ifCond .eq 24, 3) := by decide +kernel
theorem dX11_drives_25 : decode cX11_drives 25 = .ok (.iload_n 1, 1) := by decide +kernel
theorem dX11_drives_26 : decode cX11_drives 26 = .ok (.iload_n 2, 1) := by decide +kernel
theorem dX11_drives_27 : decode cX11_drives 27 = .ok (.if_icmp .eq 19, 3) := by decide +kernel
theorem dX11_drives_30 : decode cX11_drives 30 = .ok (.aload_n 0, 1) := by decide +kernel
theorem dX11_drives_31 : decode cX11_drives 31 = .ok (.iload_n 3, 1) := by decide +kernel
theorem dX11_drives_32 : decode cX11_drives 32 = .ok (.invokevirtual 560, 3) := by decide +kernel
theorem dX11_drives_35 : decode cX11_drives 35 = .ok (.ifCond .eq 11, 3) := by decide +kernel
theorem dX11_drives_38 : decode cX11_drives 38 = .ok (.aload_n 0, 1) := by decide +kernel
theorem dX11_drives_39 : decode cX11_drives 39 = .ok (.iload_n 3, 1) := by decide +kernel
theorem dX11_drives_40 : decode cX11_drives 40 = .ok (.invokevirtual 501, 3) := by decide +kernel
theorem dX11_drives_43 : decode cX11_drives 43 = .ok (.ifCond .ne 6, 3) := by decide +kernel
theorem dX11_drives_46 : decode cX11_drives 46 = .ok (.bipush (-2), 2) := by decide +kernel
theorem dX11_drives_48 : decode cX11_drives 48 = .ok (.ireturn, 1) := by decide +kernel
theorem dX11_drives_49 : decode cX11_drives 49 = .ok (.iconst 1, 1) := by decide +kernel
theorem dX11_drives_50 : decode cX11_drives 50 = .ok (.istore 4, 2) := by decide +kernel
theorem dX11_drives_52 : decode cX11_drives 52 = .ok (.iconst 0, 1) := by decide +kernel
theorem dX11_drives_53 : decode cX11_drives 53 = .ok (.istore 5, 2) := by decide +kernel
theorem dX11_drives_55 : decode cX11_drives 55 = .ok (.iload 5, 2) := by decide +kernel
theorem dX11_drives_57 : decode cX11_drives 57 = .ok (.iconst 4, 1) := by decide +kernel
theorem dX11_drives_58 : decode cX11_drives 58 = .ok (.if_icmp .gt 90, 3) := by decide +kernel
theorem dX11_drives_61 : decode cX11_drives 61 = .ok (.iconst 0, 1) := by decide +kernel
theorem dX11_drives_62 : decode cX11_drives 62 = .ok (.istore 6, 2) := by decide +kernel
theorem dX11_drives_64 : decode cX11_drives 64 = .ok (.iload 6, 2) := by decide +kernel
theorem dX11_drives_66 : decode cX11_drives 66 = .ok (.iload 4, 2) := by decide +kernel
theorem dX11_drives_68 : decode cX11_drives 68 = .ok (.if_icmp .ge 65, 3) := by decide +kernel
theorem dX11_drives_71 : decode cX11_drives 71 = .ok (.aload_n 0, 1) := by decide +kernel
theorem dX11_drives_72 : decode cX11_drives 72 = .ok (.iload_n 1, 1) := by decide +kernel
theorem dX11_drives_73 : decode cX11_drives 73 = .ok (.iload_n 2, 1) := by decide +kernel
theorem dX11_drives_74 : decode cX11_drives 74 = .ok (.iload_n 3, 1) := by decide +kernel
theorem dX11_drives_75 : decode cX11_drives 75 = .ok (.iload 5, 2) := by decide +kernel
theorem dX11_drives_77 : decode cX11_drives 77 = .ok (.iload 6, 2) := by decide +kernel
theorem dX11_drives_79 : decode cX11_drives 79 = .ok (.invokevirtual 615, 3) := by decide +kernel
theorem dX11_drives_82 : decode cX11_drives 82 = .ok (.ifCond .ne 6, 3) := by decide +kernel
theorem dX11_drives_85 : decode cX11_drives 85 = .ok (.goto 42, 3) := by decide +kernel
theorem dX11_drives_88 : decode cX11_drives 88 = .ok (.iconst 0, 1) := by decide +kernel
theorem dX11_drives_89 : decode cX11_drives 89 = .ok (.istore 7, 2) := by decide +kernel
theorem dX11_drives_91 : decode cX11_drives 91 = .ok (.iload 7, 2) := by decide +kernel
theorem dX11_drives_93 : decode cX11_drives 93 = .ok (.iload 5, 2) := by decide +kernel
theorem dX11_drives_95 : decode cX11_drives 95 = .ok (.if_icmp .ge 23, 3) := by decide +kernel
theorem dX11_drives_98 : decode cX11_drives 98 = .ok (.aload_n 0, 1) := by decide +kernel
theorem dX11_drives_99 : decode cX11_drives 99 = .ok (.getfield 157, 3) := by decide +kernel
theorem dX11_drives_102 : decode cX11_drives 102 = .ok (.iload 7, 2) := by decide +kernel
theorem dX11_drives_104 : decode cX11_drives 104 = .ok (.aload_n 0, 1) := by decide +kernel
theorem dX11_drives_105 : decode cX11_drives 105 = .ok (.getfield 154, 3) := by decide +kernel
theorem dX11_drives_108 : decode cX11_drives 108 = .ok (.iload 7, 2) := by decide +kernel
theorem dX11_drives_110 : decode cX11_drives 110 = .ok (.iaload, 1) := by decide +kernel
theorem dX11_drives_111 : decode cX11_drives 111 = .ok (.iastore, 1) := by decide +kernel
theorem dX11_drives_112 : decode cX11_drives 112 = .ok (.iinc 7 1, 3) := by decide +kernel
theorem dX11_drives_115 : decode cX11_drives 115 = .ok (.goto (-24), 3) := by decide +kernel
theorem dX11_drives_118 : decode cX11_drives 118 = .ok (.aload_n 0, 1) := by decide +kernel
theorem dX11_drives_119 : decode cX11_drives 119 = .ok (.iload 5, 2) := by decide +kernel
theorem dX11_drives_121 : decode cX11_drives 121 = .ok (.putfield 491, 3) := by decide +kernel
theorem dX11_drives_124 : decode cX11_drives 124 = .ok (.iload 5, 2) := by decide +kernel
theorem dX11_drives_126 : decode cX11_drives 126 = .ok (.ireturn, 1) := by decide +kernel
theorem dX11_drives_127 : decode cX11_drives 127 = .ok (.iinc 6 1, 3) := by decide +kernel
theorem dX11_drives_130 : decode cX11_drives 130 = .ok (.goto (-66), 3) := by decide +kernel
theorem dX11_drives_133 : decode cX11_drives 133 = .ok (.iload 4, 2) := by decide +kernel
theorem dX11_drives_135 : decode cX11_drives 135 = .ok (.aload_n 0, 1) := by decide +kernel
theorem dX11_drives_136 : decode cX11_drives 136 = .ok (.getfield 467, 3) := by decide +kernel
theorem dX11_drives_139 : decode cX11_drives 139 = .ok (.imul, 1) := by decide +kernel
theorem dX11_drives_140 : decode cX11_drives 140 = .ok (.istore 4, 2) := by decide +kernel
theorem dX11_drives_142 : decode cX11_drives 142 = .ok (.iinc 5 1, 3) := by decide +kernel
theorem dX11_drives_145 : decode cX11_drives 145 = .ok (.goto (-90), 3) := by decide +kernel
theorem dX11_drives_148 : decode cX11_drives 148 = .ok (.iconst (-1), 1) := by decide +kernel
theorem dX11_drives_149 : decode cX11_drives 149 = .ok (.ireturn, 1) := by decide +kernel
theorem dX11_goneOf_0 : decode cX11_goneOf 0 = .ok (.aload_n 0, 1) := by decide +kernel
theorem dX11_goneOf_1 : decode cX11_goneOf 1 = .ok (.invokevirtual 566, 3) := by decide +kernel
theorem dX11_goneOf_4 : decode cX11_goneOf 4 = .ok (.iconst 0, 1) := by decide +kernel
theorem dX11_goneOf_5 : decode cX11_goneOf 5 = .ok (.istore_n 2, 1) := by decide +kernel
theorem dX11_goneOf_6 : decode cX11_goneOf 6 = .ok (.iload_n 2, 1) := by decide +kernel
theorem dX11_goneOf_7 : decode cX11_goneOf 7 = .ok (.aload_n 0, 1) := by decide +kernel
theorem dX11_goneOf_8 : decode cX11_goneOf 8 = .ok (.getfield 467, 3) := by decide +kernel
theorem dX11_goneOf_11 : decode cX11_goneOf 11 = .ok (.if_icmp .ge 37, 3) := by decide +kernel
theorem dX11_goneOf_14 : decode cX11_goneOf 14 = .ok (.iload_n 1, 1) := by decide +kernel
theorem dX11_goneOf_15 : decode cX11_goneOf 15 = .ok (.iload_n 2, 1) := by decide +kernel
theorem dX11_goneOf_16 : decode cX11_goneOf 16 = .ok (.ishr, 1) := by decide +kernel
theorem dX11_goneOf_17 : decode cX11_goneOf 17 = .ok (.iconst 1, 1) := by decide +kernel
theorem dX11_goneOf_18 : decode cX11_goneOf 18 = .ok (.iand, 1) := by decide +kernel
theorem dX11_goneOf_19 : decode cX11_goneOf 19 = .ok (.ifCond .ne 23, 3) := by decide +kernel
theorem dX11_goneOf_22 : decode cX11_goneOf 22 = .ok (.aload_n 0, 1) := by decide +kernel
theorem dX11_goneOf_23 : decode cX11_goneOf 23 = .ok (.iload_n 2, 1) := by decide +kernel
theorem dX11_goneOf_24 : decode cX11_goneOf 24 = .ok (.invokevirtual 501, 3) := by decide +kernel
theorem dX11_goneOf_27 : decode cX11_goneOf 27 = .ok (.ifCond .eq 15, 3) := by decide +kernel
theorem dX11_goneOf_30 : decode cX11_goneOf 30 = .ok (.aload_n 0, 1) := by decide +kernel
theorem dX11_goneOf_31 : decode cX11_goneOf 31 = .ok (.getfield 121, 3) := by decide +kernel
theorem dX11_goneOf_34 : decode cX11_goneOf 34 = .ok (.iconst 5, 1) := by decide +kernel
theorem dX11_goneOf_35 : decode cX11_goneOf 35 = .ok (.iload_n 2, 1) := by decide +kernel
theorem dX11_goneOf_36 : decode cX11_goneOf 36 = .ok (.imul, 1) := by decide +kernel
theorem dX11_goneOf_37 : decode cX11_goneOf 37 = .ok (.iconst 2, 1) := by decide +kernel
theorem dX11_goneOf_38 : decode cX11_goneOf 38 = .ok (.iadd, 1) := by decide +kernel
theorem dX11_goneOf_39 : decode cX11_goneOf 39 = .ok (.bipush 8, 2) := by decide +kernel
theorem dX11_goneOf_41 : decode cX11_goneOf 41 = .ok (.iastore, 1) := by decide +kernel
theorem dX11_goneOf_42 : decode cX11_goneOf 42 = .ok (.iinc 2 1, 3) := by decide +kernel
theorem dX11_goneOf_45 : decode cX11_goneOf 45 = .ok (.goto (-39), 3) := by decide +kernel
theorem dX11_goneOf_48 : decode cX11_goneOf 48 = .ok (.aload_n 0, 1) := by decide +kernel
theorem dX11_goneOf_49 : decode cX11_goneOf 49 = .ok (.invokevirtual 619, 3) := by decide +kernel
theorem dX11_goneOf_52 : decode cX11_goneOf 52 = .ok (.ifCond .ne 5, 3) := by decide +kernel
theorem dX11_goneOf_55 : decode cX11_goneOf 55 = .ok (.iconst 0, 1) := by decide +kernel
theorem dX11_goneOf_56 : decode cX11_goneOf 56 = .ok (.ireturn, 1) := by decide +kernel
theorem dX11_goneOf_57 : decode cX11_goneOf 57 = .ok (.iconst 1, 1) := by decide +kernel
theorem dX11_goneOf_58 : decode cX11_goneOf 58 = .ok (.istore_n 2, 1) := by decide +kernel
theorem dX11_goneOf_59 : decode cX11_goneOf 59 = .ok (.iload_n 2, 1) := by decide +kernel
theorem dX11_goneOf_60 : decode cX11_goneOf 60 = .ok (.bipush 60, 2) := by decide +kernel
theorem dX11_goneOf_62 : decode cX11_goneOf 62 = .ok (.if_icmp .gt 46, 3) := by decide +kernel
theorem dX11_goneOf_65 : decode cX11_goneOf 65 = .ok (.iconst 0, 1) := by decide +kernel
theorem dX11_goneOf_66 : decode cX11_goneOf 66 = .ok (.istore_n 3, 1) := by decide +kernel
theorem dX11_goneOf_67 : decode cX11_goneOf 67 = .ok (.iload_n 3, 1) := by decide +kernel
theorem dX11_goneOf_68 : decode cX11_goneOf 68 = .ok (.aload_n 0, 1) := by decide +kernel
theorem dX11_goneOf_69 : decode cX11_goneOf 69 = .ok (.getfield 470, 3) := by decide +kernel
theorem dX11_goneOf_72 : decode cX11_goneOf 72 = .ok (.if_icmp .ge 21, 3) := by decide +kernel
theorem dX11_goneOf_75 : decode cX11_goneOf 75 = .ok (.aload_n 0, 1) := by decide +kernel
theorem dX11_goneOf_76 : decode cX11_goneOf 76 = .ok (.iload_n 3, 1) := by decide +kernel
theorem dX11_goneOf_77 : decode cX11_goneOf 77 = .ok (.aload_n 0, 1) := by decide +kernel
theorem dX11_goneOf_78 : decode cX11_goneOf 78 = .ok (.getfield 112, 3) := by decide +kernel
theorem dX11_goneOf_81 : decode cX11_goneOf 81 = .ok (.iload_n 3, 1) := by decide +kernel
theorem dX11_goneOf_82 : decode cX11_goneOf 82 = .ok (.iaload, 1) := by decide +kernel
theorem dX11_goneOf_83 : decode cX11_goneOf 83 = .ok (.invokevirtual 584, 3) := by decide +kernel
theorem dX11_goneOf_86 : decode cX11_goneOf 86 = .ok (.pop, 1) := by decide +kernel
theorem dX11_goneOf_87 : decode cX11_goneOf 87 = .ok (.iinc 3 1, 3) := by decide +kernel
theorem dX11_goneOf_90 : decode cX11_goneOf 90 = .ok (.goto (-23), 3) := by decide +kernel
theorem dX11_goneOf_93 : decode cX11_goneOf 93 = .ok (.aload_n 0, 1) := by decide +kernel
theorem dX11_goneOf_94 : decode cX11_goneOf 94 = .ok (.invokevirtual 619, 3) := by decide +kernel
theorem dX11_goneOf_97 : decode cX11_goneOf 97 = .ok (.ifCond .ne 5, 3) := by decide +kernel
theorem dX11_goneOf_100 : decode cX11_goneOf 100 = .ok (.iload_n 2, 1) := by decide +kernel
theorem dX11_goneOf_101 : decode cX11_goneOf 101 = .ok (.ireturn, 1) := by decide +kernel
theorem dX11_goneOf_102 : decode cX11_goneOf 102 = .ok (.iinc 2 1, 3) := by decide +kernel
theorem dX11_goneOf_105 : decode cX11_goneOf 105 = .ok (.goto (-46), 3) := by decide +kernel
theorem dX11_goneOf_108 : decode cX11_goneOf 108 = .ok (.iconst (-1), 1) := by decide +kernel
theorem dX11_goneOf_109 : decode cX11_goneOf 109 = .ok (.ireturn, 1) := by decide +kernel
theorem dX11_afloatSet_0 : decode cX11_afloatSet 0 = .ok (.aload_n 0, 1) := by decide +kernel
theorem dX11_afloatSet_1 : decode cX11_afloatSet 1 = .ok (.invokevirtual 566, 3) := by decide +kernel
theorem dX11_afloatSet_4 : decode cX11_afloatSet 4 = .ok (.iconst 0, 1) := by decide +kernel
theorem dX11_afloatSet_5 : decode cX11_afloatSet 5 = .ok (.istore_n 1, 1) := by decide +kernel
theorem dX11_afloatSet_6 : decode cX11_afloatSet 6 = .ok (.iconst 0, 1) := by decide +kernel
theorem dX11_afloatSet_7 : decode cX11_afloatSet 7 = .ok (.istore_n 2, 1) := by decide +kernel
theorem dX11_afloatSet_8 : decode cX11_afloatSet 8 = .ok (.iload_n 2, 1) := by decide +kernel
theorem dX11_afloatSet_9 : decode cX11_afloatSet 9 = .ok (.aload_n 0, 1) := by decide +kernel
theorem dX11_afloatSet_10 : decode cX11_afloatSet 10 = .ok (.getfield 467, 3) := by decide +kernel
theorem dX11_afloatSet_13 : decode cX11_afloatSet 13 = .ok (.if_icmp .ge 27, 3) := by decide +kernel
theorem dX11_afloatSet_16 : decode cX11_afloatSet 16 = .ok (.iload_n 1, 1) := by decide +kernel
theorem dX11_afloatSet_17 : decode cX11_afloatSet 17 = .ok (.aload_n 0, 1) := by decide +kernel
theorem dX11_afloatSet_18 : decode cX11_afloatSet 18 = .ok (.iload_n 2, 1) := by decide +kernel
theorem dX11_afloatSet_19 : decode cX11_afloatSet 19 = .ok (.invokevirtual 501, 3) := by decide +kernel
theorem dX11_afloatSet_22 : decode cX11_afloatSet 22 = .ok (.ifCond .eq 9, 3) := by decide +kernel
theorem dX11_afloatSet_25 : decode cX11_afloatSet 25 = .ok (.iconst 1, 1) := by decide +kernel
theorem dX11_afloatSet_26 : decode cX11_afloatSet 26 = .ok (.iload_n 2, 1) := by decide +kernel
theorem dX11_afloatSet_27 : decode cX11_afloatSet 27 = .ok (.ishl, 1) := by decide +kernel
theorem dX11_afloatSet_28 : decode cX11_afloatSet 28 = .ok (.goto 4, 3) := by decide +kernel
theorem dX11_afloatSet_31 : decode cX11_afloatSet 31 = .ok (.iconst 0, 1) := by decide +kernel
theorem dX11_afloatSet_32 : decode cX11_afloatSet 32 = .ok (.ior, 1) := by decide +kernel
theorem dX11_afloatSet_33 : decode cX11_afloatSet 33 = .ok (.istore_n 1, 1) := by decide +kernel
theorem dX11_afloatSet_34 : decode cX11_afloatSet 34 = .ok (.iinc 2 1, 3) := by decide +kernel
theorem dX11_afloatSet_37 : decode cX11_afloatSet 37 = .ok (.goto (-29), 3) := by decide +kernel
theorem dX11_afloatSet_40 : decode cX11_afloatSet 40 = .ok (.iload_n 1, 1) := by decide +kernel
theorem dX11_afloatSet_41 : decode cX11_afloatSet 41 = .ok (.ireturn, 1) := by decide +kernel
theorem dX11_gone_0 : decode cX11_gone 0 = .ok (.iload_n 1, 1) := by decide +kernel
theorem dX11_gone_1 : decode cX11_gone 1 = .ok (.ifCond .lt 14, 3) := by decide +kernel
theorem dX11_gone_4 : decode cX11_gone 4 = .ok (.iload_n 1, 1) := by decide +kernel
theorem dX11_gone_5 : decode cX11_gone 5 = .ok (.aload_n 0, 1) := by decide +kernel
theorem dX11_gone_6 : decode cX11_gone 6 = .ok (.invokevirtual 622, 3) := by decide +kernel
theorem dX11_gone_9 : decode cX11_gone 9 = .ok (.iconst (-1), 1) := by decide +kernel
theorem dX11_gone_10 : decode cX11_gone 10 = .ok (.ixor, 1) := by decide +kernel
theorem dX11_gone_11 : decode cX11_gone 11 = .ok (.iand, 1) := by decide +kernel
theorem dX11_gone_12 : decode cX11_gone 12 = .ok (.ifCond .eq 8, 3) := by decide +kernel
theorem dX11_gone_15 : decode cX11_gone 15 = .ok (.bipush (-2), 2) := by decide +kernel
theorem dX11_gone_17 : decode cX11_gone 17 = .ok (.goto 8, 3) := by decide +kernel
theorem dX11_gone_20 : decode cX11_gone 20 = .ok (.aload_n 0, 1) := by decide +kernel
theorem dX11_gone_21 : decode cX11_gone 21 = .ok (.iload_n 1, 1) := by decide +kernel
theorem dX11_gone_22 : decode cX11_gone 22 = .ok (.invokevirtual 625, 3) := by decide +kernel
theorem dX11_gone_25 : decode cX11_gone 25 = .ok (.ireturn, 1) := by decide +kernel
theorem dX11_members_0 : decode cX11_members 0 = .ok (.iconst 0, 1) := by decide +kernel
theorem dX11_members_1 : decode cX11_members 1 = .ok (.istore_n 1, 1) := by decide +kernel
theorem dX11_members_2 : decode cX11_members 2 = .ok (.iconst 0, 1) := by decide +kernel
theorem dX11_members_3 : decode cX11_members 3 = .ok (.istore_n 2, 1) := by decide +kernel
theorem dX11_members_4 : decode cX11_members 4 = .ok (.iload_n 2, 1) := by decide +kernel
theorem dX11_members_5 : decode cX11_members 5 = .ok (.bipush 10, 2) := by decide +kernel
theorem dX11_members_7 : decode cX11_members 7 = .ok (.if_icmp .ge 17, 3) := by decide +kernel
theorem dX11_members_10 : decode cX11_members 10 = .ok (.iload_n 1, 1) := by decide +kernel
theorem dX11_members_11 : decode cX11_members 11 = .ok (.iload_n 0, 1) := by decide +kernel
theorem dX11_members_12 : decode cX11_members 12 = .ok (.iload_n 2, 1) := by decide +kernel
theorem dX11_members_13 : decode cX11_members 13 = .ok (.ishr, 1) := by decide +kernel
theorem dX11_members_14 : decode cX11_members 14 = .ok (.iconst 1, 1) := by decide +kernel
theorem dX11_members_15 : decode cX11_members 15 = .ok (.iand, 1) := by decide +kernel
theorem dX11_members_16 : decode cX11_members 16 = .ok (.iadd, 1) := by decide +kernel
theorem dX11_members_17 : decode cX11_members 17 = .ok (.istore_n 1, 1) := by decide +kernel
theorem dX11_members_18 : decode cX11_members 18 = .ok (.iinc 2 1, 3) := by decide +kernel
theorem dX11_members_21 : decode cX11_members 21 = .ok (.goto (-17), 3) := by decide +kernel
theorem dX11_members_24 : decode cX11_members 24 = .ok (.iload_n 1, 1) := by decide +kernel
theorem dX11_members_25 : decode cX11_members 25 = .ok (.ireturn, 1) := by decide +kernel
theorem dX11_provide_0 : decode cX11_provide 0 = .ok (.iload_n 1, 1) := by decide +kernel
theorem dX11_provide_1 : decode cX11_provide 1 = .ok (.iconst 1, 1) := by decide +kernel
theorem dX11_provide_2 : decode cX11_provide 2 = .ok (.bipush 60, 2) := by decide +kernel
theorem dX11_provide_4 : decode cX11_provide 4 = .ok (.invokestatic 494, 3) := by decide +kernel
theorem dX11_provide_7 : decode cX11_provide 7 = .ok (.ifCond .eq 12, 3) := by decide +kernel
theorem dX11_provide_10 : decode cX11_provide 10 = .ok (.iload_n 2, 1) := by decide +kernel
theorem dX11_provide_11 : decode cX11_provide 11 = .ok (.iconst 0, 1) := by decide +kernel
theorem dX11_provide_12 : decode cX11_provide 12 = .ok (.iconst 1, 1) := by decide +kernel
theorem dX11_provide_13 : decode cX11_provide 13 = .ok (.invokestatic 494, 3) := by decide +kernel
theorem dX11_provide_16 : decode cX11_provide 16 = .ok (.ifCond .ne 5, 3) := by decide +kernel
theorem dX11_provide_19 : decode cX11_provide 19 = .ok (.iconst (-1), 1) := by decide +kernel
theorem dX11_provide_20 : decode cX11_provide 20 = .ok (.ireturn, 1) := by decide +kernel
theorem dX11_provide_21 : decode cX11_provide 21 = .ok (.aload_n 0, 1) := by decide +kernel
theorem dX11_provide_22 : decode cX11_provide 22 = .ok (.invokevirtual 622, 3) := by decide +kernel
theorem dX11_provide_25 : decode cX11_provide 25 = .ok (.istore_n 3, 1) := by decide +kernel
theorem dX11_provide_26 : decode cX11_provide 26 = .ok (.iconst (-1), 1) := by decide +kernel
theorem dX11_provide_27 : decode cX11_provide 27 = .ok (.istore 4, 2) := by decide +kernel
theorem dX11_provide_29 : decode cX11_provide 29 = .ok (.iconst 1, 1) := by decide +kernel
theorem dX11_provide_30 : decode cX11_provide 30 = .ok (.istore 5, 2) := by decide +kernel
theorem dX11_provide_32 : decode cX11_provide 32 = .ok (.iload 5, 2) := by decide +kernel
theorem dX11_provide_34 : decode cX11_provide 34 = .ok (.iconst 1, 1) := by decide +kernel
theorem dX11_provide_35 : decode cX11_provide 35 = .ok (.aload_n 0, 1) := by decide +kernel
theorem dX11_provide_36 : decode cX11_provide 36 = .ok (.getfield 467, 3) := by decide +kernel
theorem dX11_provide_39 : decode cX11_provide 39 = .ok (.ishl, 1) := by decide +kernel
theorem dX11_provide_40 : decode cX11_provide 40 = .ok (.if_icmp .ge 62, 3) := by decide +kernel
theorem dX11_provide_43 : decode cX11_provide 43 = .ok (.iload 5, 2) := by decide +kernel
theorem dX11_provide_45 : decode cX11_provide 45 = .ok (.iload_n 3, 1) := by decide +kernel
theorem dX11_provide_46 : decode cX11_provide 46 = .ok (.iconst (-1), 1) := by decide +kernel
theorem dX11_provide_47 : decode cX11_provide 47 = .ok (.ixor, 1) := by decide +kernel
theorem dX11_provide_48 : decode cX11_provide 48 = .ok (.iand, 1) := by decide +kernel
theorem dX11_provide_49 : decode cX11_provide 49 = .ok (.ifCond .ne 47, 3) := by decide +kernel
theorem dX11_provide_52 : decode cX11_provide 52 = .ok (.iload 4, 2) := by decide +kernel
theorem dX11_provide_54 : decode cX11_provide 54 = .ok (.ifCond .lt 19, 3) := by decide +kernel
theorem dX11_provide_57 : decode cX11_provide 57 = .ok (.iload 5, 2) := by decide +kernel
theorem dX11_provide_59 : decode cX11_provide 59 = .ok (.invokestatic 628, 3) := by decide +kernel
theorem dX11_provide_62 : decode cX11_provide 62 = .ok (.iload 4, 2) := by decide +kernel
theorem dX11_provide_64 : decode cX11_provide 64 = .ok (.invokestatic 628, 3) := by decide +kernel
theorem dX11_provide_67 : decode cX11_provide 67 = .ok (.if_icmp .lt 6, 3) := by decide +kernel
theorem dX11_provide_70 : decode cX11_provide 70 = .ok (.goto 26, 3) := by decide +kernel
theorem dX11_provide_73 : decode cX11_provide 73 = .ok (.aload_n 0, 1) := by decide +kernel
theorem dX11_provide_74 : decode cX11_provide 74 = .ok (.iload 5, 2) := by decide +kernel
theorem dX11_provide_76 : decode cX11_provide 76 = .ok (.invokevirtual 625, 3) := by decide +kernel
theorem dX11_provide_79 : decode cX11_provide 79 = .ok (.istore 6, 2) := by decide +kernel
theorem dX11_provide_81 : decode cX11_provide 81 = .ok (.iload 6, 2) := by decide +kernel
theorem dX11_provide_83 : decode cX11_provide 83 = .ok (.ifCond .lt 9, 3) := by decide +kernel
theorem dX11_provide_86 : decode cX11_provide 86 = .ok (.iload 6, 2) := by decide +kernel
theorem dX11_provide_88 : decode cX11_provide 88 = .ok (.iload_n 1, 1) := by decide +kernel
theorem dX11_provide_89 : decode cX11_provide 89 = .ok (.if_icmp .le 7, 3) := by decide +kernel
theorem dX11_provide_92 : decode cX11_provide 92 = .ok (.iload 5, 2) := by decide +kernel
theorem dX11_provide_94 : decode cX11_provide 94 = .ok (.istore 4, 2) := by decide +kernel
theorem dX11_provide_96 : decode cX11_provide 96 = .ok (.iinc 5 1, 3) := by decide +kernel
theorem dX11_provide_99 : decode cX11_provide 99 = .ok (.goto (-67), 3) := by decide +kernel
theorem dX11_provide_102 : decode cX11_provide 102 = .ok (.iload 4, 2) := by decide +kernel
theorem dX11_provide_104 : decode cX11_provide 104 = .ok (.ifCond .ge 7, 3) := by decide +kernel
theorem dX11_provide_107 : decode cX11_provide 107 = .ok (.iconst (-1), 1) := by decide +kernel
theorem dX11_provide_108 : decode cX11_provide 108 = .ok (.goto 17, 3) := by decide +kernel
theorem dX11_provide_111 : decode cX11_provide 111 = .ok (.iload_n 2, 1) := by decide +kernel
theorem dX11_provide_112 : decode cX11_provide 112 = .ok (.ifCond .ne 11, 3) := by decide +kernel
theorem dX11_provide_115 : decode cX11_provide 115 = .ok (.iload 4, 2) := by decide +kernel
theorem dX11_provide_117 : decode cX11_provide 117 = .ok (.invokestatic 628, 3) := by decide +kernel
theorem dX11_provide_120 : decode cX11_provide 120 = .ok (.goto 5, 3) := by decide +kernel
theorem dX11_provide_123 : decode cX11_provide 123 = .ok (.iload 4, 2) := by decide +kernel
theorem dX11_provide_125 : decode cX11_provide 125 = .ok (.ireturn, 1) := by decide +kernel
theorem dX11_matchOf_0 : decode cX11_matchOf 0 = .ok (.aload_n 0, 1) := by decide +kernel
theorem dX11_matchOf_1 : decode cX11_matchOf 1 = .ok (.invokevirtual 566, 3) := by decide +kernel
theorem dX11_matchOf_4 : decode cX11_matchOf 4 = .ok (.iconst 0, 1) := by decide +kernel
theorem dX11_matchOf_5 : decode cX11_matchOf 5 = .ok (.istore_n 3, 1) := by decide +kernel
theorem dX11_matchOf_6 : decode cX11_matchOf 6 = .ok (.iconst 0, 1) := by decide +kernel
theorem dX11_matchOf_7 : decode cX11_matchOf 7 = .ok (.istore 4, 2) := by decide +kernel
theorem dX11_matchOf_9 : decode cX11_matchOf 9 = .ok (.iload 4, 2) := by decide +kernel
theorem dX11_matchOf_11 : decode cX11_matchOf 11 = .ok (.bipush 10, 2) := by decide +kernel
theorem dX11_matchOf_13 : decode cX11_matchOf 13 = .ok (.if_icmp .ge 43, 3) := by decide +kernel
theorem dX11_matchOf_16 : decode cX11_matchOf 16 = .ok (.iload_n 3, 1) := by decide +kernel
theorem dX11_matchOf_17 : decode cX11_matchOf 17 = .ok (.aload_n 0, 1) := by decide +kernel
theorem dX11_matchOf_18 : decode cX11_matchOf 18 = .ok (.iconst 0, 1) := by decide +kernel
theorem dX11_matchOf_19 : decode cX11_matchOf 19 = .ok (.iload_n 1, 1) := by decide +kernel
theorem dX11_matchOf_20 : decode cX11_matchOf 20 = .ok (.invokevirtual 584, 3) := by decide +kernel
theorem dX11_matchOf_23 : decode cX11_matchOf 23 = .ok (.ifCond .eq 7, 3) := by decide +kernel
theorem dX11_matchOf_26 : decode cX11_matchOf 26 = .ok (.iconst 1, 1) := by decide +kernel
theorem dX11_matchOf_27 : decode cX11_matchOf 27 = .ok (.goto 4, 3) := by decide +kernel
theorem dX11_matchOf_30 : decode cX11_matchOf 30 = .ok (.iconst 0, 1) := by decide +kernel
theorem dX11_matchOf_31 : decode cX11_matchOf 31 = .ok (.iadd, 1) := by decide +kernel
theorem dX11_matchOf_32 : decode cX11_matchOf 32 = .ok (.istore_n 3, 1) := by decide +kernel
theorem dX11_matchOf_33 : decode cX11_matchOf 33 = .ok (.iload_n 3, 1) := by decide +kernel
theorem dX11_matchOf_34 : decode cX11_matchOf 34 = .ok (.aload_n 0, 1) := by decide +kernel
theorem dX11_matchOf_35 : decode cX11_matchOf 35 = .ok (.iconst 1, 1) := by decide +kernel
theorem dX11_matchOf_36 : decode cX11_matchOf 36 = .ok (.iload_n 2, 1) := by decide +kernel
theorem dX11_matchOf_37 : decode cX11_matchOf 37 = .ok (.invokevirtual 584, 3) := by decide +kernel
theorem dX11_matchOf_40 : decode cX11_matchOf 40 = .ok (.ifCond .eq 7, 3) := by decide +kernel
theorem dX11_matchOf_43 : decode cX11_matchOf 43 = .ok (.iconst 1, 1) := by decide +kernel
theorem dX11_matchOf_44 : decode cX11_matchOf 44 = .ok (.goto 4, 3) := by decide +kernel
theorem dX11_matchOf_47 : decode cX11_matchOf 47 = .ok (.iconst 0, 1) := by decide +kernel
theorem dX11_matchOf_48 : decode cX11_matchOf 48 = .ok (.isub, 1) := by decide +kernel
theorem dX11_matchOf_49 : decode cX11_matchOf 49 = .ok (.istore_n 3, 1) := by decide +kernel
theorem dX11_matchOf_50 : decode cX11_matchOf 50 = .ok (.iinc 4 1, 3) := by decide +kernel
theorem dX11_matchOf_53 : decode cX11_matchOf 53 = .ok (.goto (-44), 3) := by decide +kernel
theorem dX11_matchOf_56 : decode cX11_matchOf 56 = .ok (.iload_n 3, 1) := by decide +kernel
theorem dX11_matchOf_57 : decode cX11_matchOf 57 = .ok (.ireturn, 1) := by decide +kernel
theorem dX11_match_0 : decode cX11_match 0 = .ok (.aload_n 0, 1) := by decide +kernel
theorem dX11_match_1 : decode cX11_match 1 = .ok (.iload_n 1, 1) := by decide +kernel
theorem dX11_match_2 : decode cX11_match 2 = .ok (.invokevirtual 631, 3) := by decide +kernel
theorem dX11_match_5 : decode cX11_match 5 = .ok (.ifCond .eq 28, 3) := by decide +kernel
theorem dX11_match_8 : decode cX11_match 8 = .ok (.aload_n 0, 1) := by decide +kernel
theorem dX11_match_9 : decode cX11_match 9 = .ok (.iload_n 2, 1) := by decide +kernel
theorem dX11_match_10 : decode cX11_match 10 = .ok (.invokevirtual 631, 3) := by decide +kernel
theorem dX11_match_13 : decode cX11_match 13 = .ok (.ifCond .eq 20, 3) := by decide +kernel
theorem dX11_match_16 : decode cX11_match 16 = .ok (.aload_n 0, 1) := by decide +kernel
theorem dX11_match_17 : decode cX11_match 17 = .ok (.getfield 470, 3) := by decide +kernel
theorem dX11_match_20 : decode cX11_match 20 = .ok (.iconst 1, 1) := by decide +kernel
theorem dX11_match_21 : decode cX11_match 21 = .ok (.if_icmp .le 12, 3) := by decide +kernel
theorem dX11_match_24 : decode cX11_match 24 = .ok (.aload_n 0, 1) := by decide +kernel
theorem dX11_match_25 : decode cX11_match 25 = .ok (.iload_n 1, 1) := by decide +kernel
theorem dX11_match_26 : decode cX11_match 26 = .ok (.iload_n 2, 1) := by decide +kernel
theorem dX11_match_27 : decode cX11_match 27 = .ok (.invokevirtual 634, 3) := by decide +kernel
theorem dX11_match_30 : decode cX11_match 30 = .ok (.goto 6, 3) := by decide +kernel
theorem dX11_match_33 : decode cX11_match 33 = .ok (.ldc_w 637, 3) := by decide +kernel
theorem dX11_match_36 : decode cX11_match 36 = .ok (.ireturn, 1) := by decide +kernel
theorem dX11_reply_0 : decode cX11_reply 0 = .ok (.aload_n 0, 1) := by decide +kernel
theorem dX11_reply_1 : decode cX11_reply 1 = .ok (.iload_n 1, 1) := by decide +kernel
theorem dX11_reply_2 : decode cX11_reply 2 = .ok (.invokevirtual 631, 3) := by decide +kernel
theorem dX11_reply_5 : decode cX11_reply 5 = .ok (.ifCond .eq 11, 3) := by decide +kernel
theorem dX11_reply_8 : decode cX11_reply 8 = .ok (.aload_n 0, 1) := by decide +kernel
theorem dX11_reply_9 : decode cX11_reply 9 = .ok (.getfield 470, 3) := by decide +kernel
theorem dX11_reply_12 : decode cX11_reply 12 = .ok (.iconst 2, 1) := by decide +kernel
theorem dX11_reply_13 : decode cX11_reply 13 = .ok (.if_icmp .ge 5, 3) := by decide +kernel
theorem dX11_reply_16 : decode cX11_reply 16 = .ok (.iconst (-1), 1) := by decide +kernel
theorem dX11_reply_17 : decode cX11_reply 17 = .ok (.ireturn, 1) := by decide +kernel
theorem dX11_reply_18 : decode cX11_reply 18 = .ok (.iconst 0, 1) := by decide +kernel
theorem dX11_reply_19 : decode cX11_reply 19 = .ok (.istore_n 2, 1) := by decide +kernel
theorem dX11_reply_20 : decode cX11_reply 20 = .ok (.aload_n 0, 1) := by decide +kernel
theorem dX11_reply_21 : decode cX11_reply 21 = .ok (.iconst 0, 1) := by decide +kernel
theorem dX11_reply_22 : decode cX11_reply 22 = .ok (.iload_n 1, 1) := by decide +kernel
theorem dX11_reply_23 : decode cX11_reply 23 = .ok (.invokevirtual 634, 3) := by decide +kernel
theorem dX11_reply_26 : decode cX11_reply 26 = .ok (.istore_n 3, 1) := by decide +kernel
theorem dX11_reply_27 : decode cX11_reply 27 = .ok (.iconst 1, 1) := by decide +kernel
theorem dX11_reply_28 : decode cX11_reply 28 = .ok (.istore 4, 2) := by decide +kernel
theorem dX11_reply_30 : decode cX11_reply 30 = .ok (.iload 4, 2) := by decide +kernel
theorem dX11_reply_32 : decode cX11_reply 32 = .ok (.aload_n 0, 1) := by decide +kernel
theorem dX11_reply_33 : decode cX11_reply 33 = .ok (.getfield 464, 3) := by decide +kernel
theorem dX11_reply_36 : decode cX11_reply 36 = .ok (.if_icmp .ge 33, 3) := by decide +kernel
theorem dX11_reply_39 : decode cX11_reply 39 = .ok (.aload_n 0, 1) := by decide +kernel
theorem dX11_reply_40 : decode cX11_reply 40 = .ok (.iload 4, 2) := by decide +kernel
theorem dX11_reply_42 : decode cX11_reply 42 = .ok (.iload_n 1, 1) := by decide +kernel
theorem dX11_reply_43 : decode cX11_reply 43 = .ok (.invokevirtual 634, 3) := by decide +kernel
theorem dX11_reply_46 : decode cX11_reply 46 = .ok (.istore 5, 2) := by decide +kernel
theorem dX11_reply_48 : decode cX11_reply 48 = .ok (.iload 5, 2) := by decide +kernel
theorem dX11_reply_50 : decode cX11_reply 50 = .ok (.iload_n 3, 1) := by decide +kernel
theorem dX11_reply_51 : decode cX11_reply 51 = .ok (.if_icmp .gt 6, 3) := by decide +kernel
theorem dX11_reply_54 : decode cX11_reply 54 = .ok (.goto 9, 3) := by decide +kernel
theorem dX11_reply_57 : decode cX11_reply 57 = .ok (.iload 4, 2) := by decide +kernel
theorem dX11_reply_59 : decode cX11_reply 59 = .ok (.istore_n 2, 1) := by decide +kernel
theorem dX11_reply_60 : decode cX11_reply 60 = .ok (.iload 5, 2) := by decide +kernel
theorem dX11_reply_62 : decode cX11_reply 62 = .ok (.istore_n 3, 1) := by decide +kernel
theorem dX11_reply_63 : decode cX11_reply 63 = .ok (.iinc 4 1, 3) := by decide +kernel
theorem dX11_reply_66 : decode cX11_reply 66 = .ok (.goto (-36), 3) := by decide +kernel
theorem dX11_reply_69 : decode cX11_reply 69 = .ok (.iload_n 2, 1) := by decide +kernel
theorem dX11_reply_70 : decode cX11_reply 70 = .ok (.ireturn, 1) := by decide +kernel
theorem dX11_doesRest_0 : decode cX11_doesRest 0 = .ok (.iconst 1, 1) := by decide +kernel
theorem dX11_doesRest_1 : decode cX11_doesRest 1 = .ok (.istore_n 3, 1) := by decide +kernel
theorem dX11_doesRest_2 : decode cX11_doesRest 2 = .ok (.iconst 0, 1) := by decide +kernel
theorem dX11_doesRest_3 : decode cX11_doesRest 3 = .ok (.istore 4, 2) := by decide +kernel
theorem dX11_doesRest_5 : decode cX11_doesRest 5 = .ok (.iload 4, 2) := by decide +kernel
theorem dX11_doesRest_7 : decode cX11_doesRest 7 = .ok (.aload_n 0, 1) := by decide +kernel
theorem dX11_doesRest_8 : decode cX11_doesRest 8 = .ok (.getfield 464, 3) := by decide +kernel
theorem dX11_doesRest_11 : decode cX11_doesRest 11 = .ok (.if_icmp .ge 71, 3) := by decide +kernel
theorem dX11_doesRest_14 : decode cX11_doesRest 14 = .ok (.iload_n 3, 1) := by decide +kernel
theorem dX11_doesRest_15 : decode cX11_doesRest 15 = .ok (.ifCond .eq 59, 3) := by decide +kernel
theorem dX11_doesRest_18 : decode cX11_doesRest 18 = .ok (.aload_n 0, 1) := by decide +kernel
theorem dX11_doesRest_19 : decode cX11_doesRest 19 = .ok (.getfield 160, 3) := by decide +kernel
theorem dX11_doesRest_22 : decode cX11_doesRest 22 = .ok (.bipush 6, 2) := by decide +kernel
theorem dX11_doesRest_24 : decode cX11_doesRest 24 = .ok (.iload 4, 2) := by decide +kernel
theorem dX11_doesRest_26 : decode cX11_doesRest 26 = .ok (.imul, 1) := by decide +kernel
theorem dX11_doesRest_27 : decode cX11_doesRest 27 = .ok (.iload_n 2, 1) := by decide +kernel
theorem dX11_doesRest_28 : decode cX11_doesRest 28 = .ok (.iadd, 1) := by decide +kernel
theorem dX11_doesRest_29 : decode cX11_doesRest 29 = .ok (.iaload, 1) := by decide +kernel
theorem dX11_doesRest_30 : decode cX11_doesRest 30 = .ok (.aload_n 0, 1) := by decide +kernel
theorem dX11_doesRest_31 : decode cX11_doesRest 31 = .ok (.getfield 160, 3) := by decide +kernel
theorem dX11_doesRest_34 : decode cX11_doesRest 34 = .ok (.bipush 6, 2) := by decide +kernel
theorem dX11_doesRest_36 : decode cX11_doesRest 36 = .ok (.iload_n 1, 1) := by decide +kernel
theorem dX11_doesRest_37 : decode cX11_doesRest 37 = .ok (.imul, 1) := by decide +kernel
theorem dX11_doesRest_38 : decode cX11_doesRest 38 = .ok (.iload_n 2, 1) := by decide +kernel
theorem dX11_doesRest_39 : decode cX11_doesRest 39 = .ok (.iadd, 1) := by decide +kernel
theorem dX11_doesRest_40 : decode cX11_doesRest 40 = .ok (.iaload, 1) := by decide +kernel
theorem dX11_doesRest_41 : decode cX11_doesRest 41 = .ok (.if_icmp .gt 33, 3) := by decide +kernel
theorem dX11_doesRest_44 : decode cX11_doesRest 44 = .ok (.aload_n 0, 1) := by decide +kernel
theorem dX11_doesRest_45 : decode cX11_doesRest 45 = .ok (.getfield 160, 3) := by decide +kernel
theorem dX11_doesRest_48 : decode cX11_doesRest 48 = .ok (.bipush 6, 2) := by decide +kernel
theorem dX11_doesRest_50 : decode cX11_doesRest 50 = .ok (.iload_n 1, 1) := by decide +kernel
theorem dX11_doesRest_51 : decode cX11_doesRest 51 = .ok (.imul, 1) := by decide +kernel
theorem dX11_doesRest_52 : decode cX11_doesRest 52 = .ok (.iload 4, 2) := by decide +kernel
theorem dX11_doesRest_54 : decode cX11_doesRest 54 = .ok (.iadd, 1) := by decide +kernel
theorem dX11_doesRest_55 : decode cX11_doesRest 55 = .ok (.iaload, 1) := by decide +kernel
theorem dX11_doesRest_56 : decode cX11_doesRest 56 = .ok (.aload_n 0, 1) := by decide +kernel
theorem dX11_doesRest_57 : decode cX11_doesRest 57 = .ok (.getfield 160, 3) := by decide +kernel
theorem dX11_doesRest_60 : decode cX11_doesRest 60 = .ok (.bipush 6, 2) := by decide +kernel
theorem dX11_doesRest_62 : decode cX11_doesRest 62 = .ok (.iload_n 1, 1) := by decide +kernel
theorem dX11_doesRest_63 : decode cX11_doesRest 63 = .ok (.imul, 1) := by decide +kernel
theorem dX11_doesRest_64 : decode cX11_doesRest 64 = .ok (.iload_n 2, 1) := by decide +kernel
theorem dX11_doesRest_65 : decode cX11_doesRest 65 = .ok (.iadd, 1) := by decide +kernel
theorem dX11_doesRest_66 : decode cX11_doesRest 66 = .ok (.iaload, 1) := by decide +kernel
theorem dX11_doesRest_67 : decode cX11_doesRest 67 = .ok (.if_icmp .lt 7, 3) := by decide +kernel
theorem dX11_doesRest_70 : decode cX11_doesRest 70 = .ok (.iconst 1, 1) := by decide +kernel
theorem dX11_doesRest_71 : decode cX11_doesRest 71 = .ok (.goto 4, 3) := by decide +kernel
theorem dX11_doesRest_74 : decode cX11_doesRest 74 = .ok (.iconst 0, 1) := by decide +kernel
theorem dX11_doesRest_75 : decode cX11_doesRest 75 = .ok (.istore_n 3, 1) := by decide +kernel
theorem dX11_doesRest_76 : decode cX11_doesRest 76 = .ok (.iinc 4 1, 3) := by decide +kernel
theorem dX11_doesRest_79 : decode cX11_doesRest 79 = .ok (.goto (-74), 3) := by decide +kernel
theorem dX11_doesRest_82 : decode cX11_doesRest 82 = .ok (.iload_n 3, 1) := by decide +kernel
theorem dX11_doesRest_83 : decode cX11_doesRest 83 = .ok (.ireturn, 1) := by decide +kernel
theorem dX11_rests_0 : decode cX11_rests 0 = .ok (.aload_n 0, 1) := by decide +kernel
theorem dX11_rests_1 : decode cX11_rests 1 = .ok (.iconst 0, 1) := by decide +kernel
theorem dX11_rests_2 : decode cX11_rests 2 = .ok (.putfield 491, 3) := by decide +kernel
theorem dX11_rests_5 : decode cX11_rests 5 = .ok (.aload_n 0, 1) := by decide +kernel
theorem dX11_rests_6 : decode cX11_rests 6 = .ok (.getfield 470, 3) := by decide +kernel
theorem dX11_rests_9 : decode cX11_rests 9 = .ok (.iconst 2, 1) := by decide +kernel
theorem dX11_rests_10 : decode cX11_rests 10 = .ok (.if_icmp .ge 5, 3) := by decide +kernel
theorem dX11_rests_13 : decode cX11_rests 13 = .ok (.iconst 0, 1) := by decide +kernel
theorem dX11_rests_14 : decode cX11_rests 14 = .ok (.ireturn, 1) := by decide +kernel
theorem dX11_rests_15 : decode cX11_rests 15 = .ok (.iconst 0, 1) := by decide +kernel
theorem dX11_rests_16 : decode cX11_rests 16 = .ok (.istore_n 1, 1) := by decide +kernel
theorem dX11_rests_17 : decode cX11_rests 17 = .ok (.iload_n 1, 1) := by decide +kernel
theorem dX11_rests_18 : decode cX11_rests 18 = .ok (.aload_n 0, 1) := by decide +kernel
theorem dX11_rests_19 : decode cX11_rests 19 = .ok (.getfield 464, 3) := by decide +kernel
theorem dX11_rests_22 : decode cX11_rests 22 = .ok (.if_icmp .ge 42, 3) := by decide +kernel
theorem dX11_rests_25 : decode cX11_rests 25 = .ok (.iconst 0, 1) := by decide +kernel
theorem dX11_rests_26 : decode cX11_rests 26 = .ok (.istore_n 2, 1) := by decide +kernel
theorem dX11_rests_27 : decode cX11_rests 27 = .ok (.iload_n 2, 1) := by decide +kernel
theorem dX11_rests_28 : decode cX11_rests 28 = .ok (.aload_n 0, 1) := by decide +kernel
theorem dX11_rests_29 : decode cX11_rests 29 = .ok (.getfield 464, 3) := by decide +kernel
theorem dX11_rests_32 : decode cX11_rests 32 = .ok (.if_icmp .ge 26, 3) := by decide +kernel
theorem dX11_rests_35 : decode cX11_rests 35 = .ok (.aload_n 0, 1) := by decide +kernel
theorem dX11_rests_36 : decode cX11_rests 36 = .ok (.getfield 160, 3) := by decide +kernel
theorem dX11_rests_39 : decode cX11_rests 39 = .ok (.bipush 6, 2) := by decide +kernel
theorem dX11_rests_41 : decode cX11_rests 41 = .ok (.iload_n 1, 1) := by decide +kernel
theorem dX11_rests_42 : decode cX11_rests 42 = .ok (.imul, 1) := by decide +kernel
theorem dX11_rests_43 : decode cX11_rests 43 = .ok (.iload_n 2, 1) := by decide +kernel
theorem dX11_rests_44 : decode cX11_rests 44 = .ok (.iadd, 1) := by decide +kernel
theorem dX11_rests_45 : decode cX11_rests 45 = .ok (.aload_n 0, 1) := by decide +kernel
theorem dX11_rests_46 : decode cX11_rests 46 = .ok (.iload_n 1, 1) := by decide +kernel
theorem dX11_rests_47 : decode cX11_rests 47 = .ok (.iload_n 2, 1) := by decide +kernel
theorem dX11_rests_48 : decode cX11_rests 48 = .ok (.invokevirtual 634, 3) := by decide +kernel
theorem dX11_rests_51 : decode cX11_rests 51 = .ok (.iastore, 1) := by decide +kernel
theorem dX11_rests_52 : decode cX11_rests 52 = .ok (.iinc 2 1, 3) := by decide +kernel
theorem dX11_rests_55 : decode cX11_rests 55 = .ok (.goto (-28), 3) := by decide +kernel
theorem dX11_rests_58 : decode cX11_rests 58 = .ok (.iinc 1 1, 3) := by decide +kernel
theorem dX11_rests_61 : decode cX11_rests 61 = .ok (.goto (-44), 3) := by decide +kernel
theorem dX11_rests_64 : decode cX11_rests 64 = .ok (.iconst 0, 1) := by decide +kernel
theorem dX11_rests_65 : decode cX11_rests 65 = .ok (.istore_n 1, 1) := by decide +kernel
theorem dX11_rests_66 : decode cX11_rests 66 = .ok (.iload_n 1, 1) := by decide +kernel
theorem dX11_rests_67 : decode cX11_rests 67 = .ok (.aload_n 0, 1) := by decide +kernel
theorem dX11_rests_68 : decode cX11_rests 68 = .ok (.getfield 464, 3) := by decide +kernel
theorem dX11_rests_71 : decode cX11_rests 71 = .ok (.if_icmp .ge 62, 3) := by decide +kernel
theorem dX11_rests_74 : decode cX11_rests 74 = .ok (.iconst 0, 1) := by decide +kernel
theorem dX11_rests_75 : decode cX11_rests 75 = .ok (.istore_n 2, 1) := by decide +kernel
theorem dX11_rests_76 : decode cX11_rests 76 = .ok (.iload_n 2, 1) := by decide +kernel
theorem dX11_rests_77 : decode cX11_rests 77 = .ok (.aload_n 0, 1) := by decide +kernel
theorem dX11_rests_78 : decode cX11_rests 78 = .ok (.getfield 464, 3) := by decide +kernel
theorem dX11_rests_81 : decode cX11_rests 81 = .ok (.if_icmp .ge 46, 3) := by decide +kernel
theorem dX11_rests_84 : decode cX11_rests 84 = .ok (.aload_n 0, 1) := by decide +kernel
theorem dX11_rests_85 : decode cX11_rests 85 = .ok (.iload_n 1, 1) := by decide +kernel
theorem dX11_rests_86 : decode cX11_rests 86 = .ok (.iload_n 2, 1) := by decide +kernel
theorem dX11_rests_87 : decode cX11_rests 87 = .ok (.invokevirtual 638, 3) := by decide +kernel
theorem dX11_rests_90 : decode cX11_rests 90 = .ok (.ifCond .ne 6, 3) := by decide +kernel
theorem dX11_rests_93 : decode cX11_rests 93 = .ok (.goto 28, 3) := by decide +kernel
theorem dX11_rests_96 : decode cX11_rests 96 = .ok (.aload_n 0, 1) := by decide +kernel
theorem dX11_rests_97 : decode cX11_rests 97 = .ok (.getfield 157, 3) := by decide +kernel
theorem dX11_rests_100 : decode cX11_rests 100 = .ok (.aload_n 0, 1) := by decide +kernel
theorem dX11_rests_101 : decode cX11_rests 101 = .ok (.getfield 491, 3) := by decide +kernel
theorem dX11_rests_104 : decode cX11_rests 104 = .ok (.bipush 10, 2) := by decide +kernel
theorem dX11_rests_106 : decode cX11_rests 106 = .ok (.iload_n 1, 1) := by decide +kernel
theorem dX11_rests_107 : decode cX11_rests 107 = .ok (.imul, 1) := by decide +kernel
theorem dX11_rests_108 : decode cX11_rests 108 = .ok (.iload_n 2, 1) := by decide +kernel
theorem dX11_rests_109 : decode cX11_rests 109 = .ok (.iadd, 1) := by decide +kernel
theorem dX11_rests_110 : decode cX11_rests 110 = .ok (.iastore, 1) := by decide +kernel
theorem dX11_rests_111 : decode cX11_rests 111 = .ok (.aload_n 0, 1) := by decide +kernel
theorem dX11_rests_112 : decode cX11_rests 112 = .ok (.dup, 1) := by decide +kernel
theorem dX11_rests_113 : decode cX11_rests 113 = .ok (.getfield 491, 3) := by decide +kernel
theorem dX11_rests_116 : decode cX11_rests 116 = .ok (.iconst 1, 1) := by decide +kernel
theorem dX11_rests_117 : decode cX11_rests 117 = .ok (.iadd, 1) := by decide +kernel
theorem dX11_rests_118 : decode cX11_rests 118 = .ok (.putfield 491, 3) := by decide +kernel
theorem dX11_rests_121 : decode cX11_rests 121 = .ok (.iinc 2 1, 3) := by decide +kernel
theorem dX11_rests_124 : decode cX11_rests 124 = .ok (.goto (-48), 3) := by decide +kernel
theorem dX11_rests_127 : decode cX11_rests 127 = .ok (.iinc 1 1, 3) := by decide +kernel
theorem dX11_rests_130 : decode cX11_rests 130 = .ok (.goto (-64), 3) := by decide +kernel
theorem dX11_rests_133 : decode cX11_rests 133 = .ok (.aload_n 0, 1) := by decide +kernel
theorem dX11_rests_134 : decode cX11_rests 134 = .ok (.getfield 491, 3) := by decide +kernel
theorem dX11_rests_137 : decode cX11_rests 137 = .ok (.ireturn, 1) := by decide +kernel
theorem dX11_comes_0 : decode cX11_comes 0 = .ok (.aload_n 0, 1) := by decide +kernel
theorem dX11_comes_1 : decode cX11_comes 1 = .ok (.invokevirtual 566, 3) := by decide +kernel
theorem dX11_comes_4 : decode cX11_comes 4 = .ok (.iload 4, 2) := by decide +kernel
theorem dX11_comes_6 : decode cX11_comes 6 = .ok (.iconst 1, 1) := by decide +kernel
theorem dX11_comes_7 : decode cX11_comes 7 = .ok (.isub, 1) := by decide +kernel
theorem dX11_comes_8 : decode cX11_comes 8 = .ok (.istore 6, 2) := by decide +kernel
theorem dX11_comes_10 : decode cX11_comes 10 = .ok (.iload 6, 2) := by decide +kernel
theorem dX11_comes_12 : decode cX11_comes 12 = .ok (.ifCond .lt 23, 3) := by decide +kernel
theorem dX11_comes_15 : decode cX11_comes 15 = .ok (.aload_n 0, 1) := by decide +kernel
theorem dX11_comes_16 : decode cX11_comes 16 = .ok (.iload 5, 2) := by decide +kernel
theorem dX11_comes_18 : decode cX11_comes 18 = .ok (.iconst 2, 1) := by decide +kernel
theorem dX11_comes_19 : decode cX11_comes 19 = .ok (.iload 6, 2) := by decide +kernel
theorem dX11_comes_21 : decode cX11_comes 21 = .ok (.imul, 1) := by decide +kernel
theorem dX11_comes_22 : decode cX11_comes 22 = .ok (.ishr, 1) := by decide +kernel
theorem dX11_comes_23 : decode cX11_comes 23 = .ok (.iconst 3, 1) := by decide +kernel
theorem dX11_comes_24 : decode cX11_comes 24 = .ok (.iand, 1) := by decide +kernel
theorem dX11_comes_25 : decode cX11_comes 25 = .ok (.invokevirtual 581, 3) := by decide +kernel
theorem dX11_comes_28 : decode cX11_comes 28 = .ok (.pop, 1) := by decide +kernel
theorem dX11_comes_29 : decode cX11_comes 29 = .ok (.iinc 6 (-1), 3) := by decide +kernel
theorem dX11_comes_32 : decode cX11_comes 32 = .ok (.goto (-22), 3) := by decide +kernel
theorem dX11_comes_35 : decode cX11_comes 35 = .ok (.aload_n 0, 1) := by decide +kernel
theorem dX11_comes_36 : decode cX11_comes 36 = .ok (.getfield 121, 3) := by decide +kernel
theorem dX11_comes_39 : decode cX11_comes 39 = .ok (.iconst 5, 1) := by decide +kernel
theorem dX11_comes_40 : decode cX11_comes 40 = .ok (.iload_n 1, 1) := by decide +kernel
theorem dX11_comes_41 : decode cX11_comes 41 = .ok (.imul, 1) := by decide +kernel
theorem dX11_comes_42 : decode cX11_comes 42 = .ok (.iaload, 1) := by decide +kernel
theorem dX11_comes_43 : decode cX11_comes 43 = .ok (.iload_n 2, 1) := by decide +kernel
theorem dX11_comes_44 : decode cX11_comes 44 = .ok (.if_icmp .ne 21, 3) := by decide +kernel
theorem dX11_comes_47 : decode cX11_comes 47 = .ok (.aload_n 0, 1) := by decide +kernel
theorem dX11_comes_48 : decode cX11_comes 48 = .ok (.getfield 121, 3) := by decide +kernel
theorem dX11_comes_51 : decode cX11_comes 51 = .ok (.iconst 5, 1) := by decide +kernel
theorem dX11_comes_52 : decode cX11_comes 52 = .ok (.iload_n 1, 1) := by decide +kernel
theorem dX11_comes_53 : decode cX11_comes 53 = .ok (.imul, 1) := by decide +kernel
theorem dX11_comes_54 : decode cX11_comes 54 = .ok (.iconst 1, 1) := by decide +kernel
theorem dX11_comes_55 : decode cX11_comes 55 = .ok (.iadd, 1) := by decide +kernel
theorem dX11_comes_56 : decode cX11_comes 56 = .ok (.iaload, 1) := by decide +kernel
theorem dX11_comes_57 : decode cX11_comes 57 = .ok (.iload_n 3, 1) := by decide +kernel
theorem dX11_comes_58 : decode cX11_comes 58 = .ok (.if_icmp .ne 7, 3) := by decide +kernel
theorem dX11_comes_61 : decode cX11_comes 61 = .ok (.iconst 1, 1) := by decide +kernel
theorem dX11_comes_62 : decode cX11_comes 62 = .ok (.goto 4, 3) := by decide +kernel
theorem dX11_comes_65 : decode cX11_comes 65 = .ok (.iconst 0, 1) := by decide +kernel
theorem dX11_comes_66 : decode cX11_comes 66 = .ok (.ireturn, 1) := by decide +kernel
theorem dX11_waves_0 : decode cX11_waves 0 = .ok (.aload_n 0, 1) := by decide +kernel
theorem dX11_waves_1 : decode cX11_waves 1 = .ok (.iconst 0, 1) := by decide +kernel
theorem dX11_waves_2 : decode cX11_waves 2 = .ok (.putfield 491, 3) := by decide +kernel
theorem dX11_waves_5 : decode cX11_waves 5 = .ok (.aload_n 0, 1) := by decide +kernel
theorem dX11_waves_6 : decode cX11_waves 6 = .ok (.invokevirtual 566, 3) := by decide +kernel
theorem dX11_waves_9 : decode cX11_waves 9 = .ok (.aload_n 0, 1) := by decide +kernel
theorem dX11_waves_10 : decode cX11_waves 10 = .ok (.iload_n 1, 1) := by decide +kernel
theorem dX11_waves_11 : decode cX11_waves 11 = .ok (.invokevirtual 560, 3) := by decide +kernel
theorem dX11_waves_14 : decode cX11_waves 14 = .ok (.ifCond .eq 20, 3) := by decide +kernel
theorem dX11_waves_17 : decode cX11_waves 17 = .ok (.aload_n 0, 1) := by decide +kernel
theorem dX11_waves_18 : decode cX11_waves 18 = .ok (.iload_n 2, 1) := by decide +kernel
theorem dX11_waves_19 : decode cX11_waves 19 = .ok (.iload_n 3, 1) := by decide +kernel
theorem dX11_waves_20 : decode cX11_waves 20 = .ok (.invokevirtual 526, 3) := by decide +kernel
theorem dX11_waves_23 : decode cX11_waves 23 = .ok (.ifCond .eq 11, 3) := by decide +kernel
theorem dX11_waves_26 : decode cX11_waves 26 = .ok (.aload_n 0, 1) := by decide +kernel
theorem dX11_waves_27 : decode cX11_waves 27 = .ok (.iload_n 1, 1) := by decide +kernel
theorem dX11_waves_28 : decode cX11_waves 28 = .ok (.invokevirtual 501, 3) := by decide +kernel
theorem dX11_waves_31 : decode cX11_waves 31 = .ok (.ifCond .ne 6, 3) := by decide +kernel
theorem dX11_waves_34 : decode cX11_waves 34 = .ok (.bipush (-2), 2) := by decide +kernel
theorem dX11_waves_36 : decode cX11_waves 36 = .ok (.ireturn, 1) := by decide +kernel
theorem dX11_waves_37 : decode cX11_waves 37 = .ok (.iconst 0, 1) := by decide +kernel
theorem dX11_waves_38 : decode cX11_waves 38 = .ok (.istore 4, 2) := by decide +kernel
theorem dX11_waves_40 : decode cX11_waves 40 = .ok (.iload 4, 2) := by decide +kernel
theorem dX11_waves_42 : decode cX11_waves 42 = .ok (.bipush 6, 2) := by decide +kernel
theorem dX11_waves_44 : decode cX11_waves 44 = .ok (.if_icmp .gt 92, 3) := by decide +kernel
theorem dX11_waves_47 : decode cX11_waves 47 = .ok (.iconst 0, 1) := by decide +kernel
theorem dX11_waves_48 : decode cX11_waves 48 = .ok (.istore 5, 2) := by decide +kernel
theorem dX11_waves_50 : decode cX11_waves 50 = .ok (.iload 5, 2) := by decide +kernel
theorem dX11_waves_52 : decode cX11_waves 52 = .ok (.iconst 1, 1) := by decide +kernel
theorem dX11_waves_53 : decode cX11_waves 53 = .ok (.iconst 2, 1) := by decide +kernel
theorem dX11_waves_54 : decode cX11_waves 54 = .ok (.iload 4, 2) := by decide +kernel
theorem dX11_waves_56 : decode cX11_waves 56 = .ok (.imul, 1) := by decide +kernel
theorem dX11_waves_57 : decode cX11_waves 57 = .ok (.ishl, 1) := by decide +kernel
theorem dX11_waves_58 : decode cX11_waves 58 = .ok (.if_icmp .ge 72, 3) := by decide +kernel
theorem dX11_waves_61 : decode cX11_waves 61 = .ok (.aload_n 0, 1) := by decide +kernel
theorem dX11_waves_62 : decode cX11_waves 62 = .ok (.iload_n 1, 1) := by decide +kernel
theorem dX11_waves_63 : decode cX11_waves 63 = .ok (.iload_n 2, 1) := by decide +kernel
theorem dX11_waves_64 : decode cX11_waves 64 = .ok (.iload_n 3, 1) := by decide +kernel
theorem dX11_waves_65 : decode cX11_waves 65 = .ok (.iload 4, 2) := by decide +kernel
theorem dX11_waves_67 : decode cX11_waves 67 = .ok (.iload 5, 2) := by decide +kernel
theorem dX11_waves_69 : decode cX11_waves 69 = .ok (.invokevirtual 641, 3) := by decide +kernel
theorem dX11_waves_72 : decode cX11_waves 72 = .ok (.ifCond .ne 6, 3) := by decide +kernel
theorem dX11_waves_75 : decode cX11_waves 75 = .ok (.goto 49, 3) := by decide +kernel
theorem dX11_waves_78 : decode cX11_waves 78 = .ok (.iconst 0, 1) := by decide +kernel
theorem dX11_waves_79 : decode cX11_waves 79 = .ok (.istore 6, 2) := by decide +kernel
theorem dX11_waves_81 : decode cX11_waves 81 = .ok (.iload 6, 2) := by decide +kernel
theorem dX11_waves_83 : decode cX11_waves 83 = .ok (.iload 4, 2) := by decide +kernel
theorem dX11_waves_85 : decode cX11_waves 85 = .ok (.if_icmp .ge 30, 3) := by decide +kernel
theorem dX11_waves_88 : decode cX11_waves 88 = .ok (.aload_n 0, 1) := by decide +kernel
theorem dX11_waves_89 : decode cX11_waves 89 = .ok (.getfield 157, 3) := by decide +kernel
theorem dX11_waves_92 : decode cX11_waves 92 = .ok (.iload 6, 2) := by decide +kernel
theorem dX11_waves_94 : decode cX11_waves 94 = .ok (.iload 5, 2) := by decide +kernel
theorem dX11_waves_96 : decode cX11_waves 96 = .ok (.iconst 2, 1) := by decide +kernel
theorem dX11_waves_97 : decode cX11_waves 97 = .ok (.iload 4, 2) := by decide +kernel
theorem dX11_waves_99 : decode cX11_waves 99 = .ok (.iconst 1, 1) := by decide +kernel
theorem dX11_waves_100 : decode cX11_waves 100 = .ok (.isub, 1) := by decide +kernel
theorem dX11_waves_101 : decode cX11_waves 101 = .ok (.iload 6, 2) := by decide +kernel
theorem dX11_waves_103 : decode cX11_waves 103 = .ok (.isub, 1) := by decide +kernel
theorem dX11_waves_104 : decode cX11_waves 104 = .ok (.imul, 1) := by decide +kernel
theorem dX11_waves_105 : decode cX11_waves 105 = .ok (.ishr, 1) := by decide +kernel
theorem dX11_waves_106 : decode cX11_waves 106 = .ok (.iconst 3, 1) := by decide +kernel
theorem dX11_waves_107 : decode cX11_waves 107 = .ok (.iand, 1) := by decide +kernel
theorem dX11_waves_108 : decode cX11_waves 108 = .ok (.iastore, 1) := by decide +kernel
theorem dX11_waves_109 : decode cX11_waves 109 = .ok (.iinc 6 1, 3) := by decide +kernel
theorem dX11_waves_112 : decode cX11_waves 112 = .ok (.goto (-31), 3) := by decide +kernel
theorem dX11_waves_115 : decode cX11_waves 115 = .ok (.aload_n 0, 1) := by decide +kernel
theorem dX11_waves_116 : decode cX11_waves 116 = .ok (.iload 4, 2) := by decide +kernel
theorem dX11_waves_118 : decode cX11_waves 118 = .ok (.putfield 491, 3) := by decide +kernel
theorem dX11_waves_121 : decode cX11_waves 121 = .ok (.iload 4, 2) := by decide +kernel
theorem dX11_waves_123 : decode cX11_waves 123 = .ok (.ireturn, 1) := by decide +kernel
theorem dX11_waves_124 : decode cX11_waves 124 = .ok (.iinc 5 1, 3) := by decide +kernel
theorem dX11_waves_127 : decode cX11_waves 127 = .ok (.goto (-77), 3) := by decide +kernel
theorem dX11_waves_130 : decode cX11_waves 130 = .ok (.iinc 4 1, 3) := by decide +kernel
theorem dX11_waves_133 : decode cX11_waves 133 = .ok (.goto (-93), 3) := by decide +kernel
theorem dX11_waves_136 : decode cX11_waves 136 = .ok (.iconst (-1), 1) := by decide +kernel
theorem dX11_waves_137 : decode cX11_waves 137 = .ok (.ireturn, 1) := by decide +kernel
theorem dX11_lasts_0 : decode cX11_lasts 0 = .ok (.aload_n 0, 1) := by decide +kernel
theorem dX11_lasts_1 : decode cX11_lasts 1 = .ok (.iload_n 1, 1) := by decide +kernel
theorem dX11_lasts_2 : decode cX11_lasts 2 = .ok (.iload_n 2, 1) := by decide +kernel
theorem dX11_lasts_3 : decode cX11_lasts 3 = .ok (.iconst 0, 1) := by decide +kernel
theorem dX11_lasts_4 : decode cX11_lasts 4 = .ok (.invokevirtual 538, 3) := by decide +kernel
theorem dX11_lasts_7 : decode cX11_lasts 7 = .ok (.istore_n 3, 1) := by decide +kernel
theorem dX11_lasts_8 : decode cX11_lasts 8 = .ok (.iload_n 3, 1) := by decide +kernel
theorem dX11_lasts_9 : decode cX11_lasts 9 = .ok (.ifCond .ne 9, 3) := by decide +kernel
theorem dX11_lasts_12 : decode cX11_lasts 12 = .ok (.sipush 9999, 3) := by decide +kernel
theorem dX11_lasts_15 : decode cX11_lasts 15 = .ok (.goto 8, 3) := by decide +kernel
theorem dX11_lasts_18 : decode cX11_lasts 18 = .ok (.sipush 1000, 3) := by decide +kernel
theorem dX11_lasts_21 : decode cX11_lasts 21 = .ok (.iload_n 3, 1) := by decide +kernel
theorem dX11_lasts_22 : decode cX11_lasts 22 = .ok (.idiv, 1) := by decide +kernel
theorem dX11_lasts_23 : decode cX11_lasts 23 = .ok (.ireturn, 1) := by decide +kernel
theorem dX11_fill_0 : decode cX11_fill 0 = .ok (.aload_n 0, 1) := by decide +kernel
theorem dX11_fill_1 : decode cX11_fill 1 = .ok (.iload_n 1, 1) := by decide +kernel
theorem dX11_fill_2 : decode cX11_fill 2 = .ok (.invokevirtual 563, 3) := by decide +kernel
theorem dX11_fill_5 : decode cX11_fill 5 = .ok (.ifCond .eq 23, 3) := by decide +kernel
theorem dX11_fill_8 : decode cX11_fill 8 = .ok (.iload_n 2, 1) := by decide +kernel
theorem dX11_fill_9 : decode cX11_fill 9 = .ok (.iconst 0, 1) := by decide +kernel
theorem dX11_fill_10 : decode cX11_fill 10 = .ok (.sipush 999, 3) := by decide +kernel
theorem dX11_fill_13 : decode cX11_fill 13 = .ok (.invokestatic 494, 3) := by decide +kernel
theorem dX11_fill_16 : decode cX11_fill 16 = .ok (.ifCond .eq 12, 3) := by decide +kernel
theorem dX11_fill_19 : decode cX11_fill 19 = .ok (.iload_n 3, 1) := by decide +kernel
theorem dX11_fill_20 : decode cX11_fill 20 = .ok (.iconst 0, 1) := by decide +kernel
theorem dX11_fill_21 : decode cX11_fill 21 = .ok (.iconst 1, 1) := by decide +kernel
theorem dX11_fill_22 : decode cX11_fill 22 = .ok (.invokestatic 494, 3) := by decide +kernel
theorem dX11_fill_25 : decode cX11_fill 25 = .ok (.ifCond .ne 5, 3) := by decide +kernel
theorem dX11_fill_28 : decode cX11_fill 28 = .ok (.iconst (-1), 1) := by decide +kernel
theorem dX11_fill_29 : decode cX11_fill 29 = .ok (.ireturn, 1) := by decide +kernel
theorem dX11_fill_30 : decode cX11_fill 30 = .ok (.aload_n 0, 1) := by decide +kernel
theorem dX11_fill_31 : decode cX11_fill 31 = .ok (.invokevirtual 566, 3) := by decide +kernel
theorem dX11_fill_34 : decode cX11_fill 34 = .ok (.iconst 0, 1) := by decide +kernel
theorem dX11_fill_35 : decode cX11_fill 35 = .ok (.istore 4, 2) := by decide +kernel
theorem dX11_fill_37 : decode cX11_fill 37 = .ok (.iconst 0, 1) := by decide +kernel
theorem dX11_fill_38 : decode cX11_fill 38 = .ok (.istore 5, 2) := by decide +kernel
theorem dX11_fill_40 : decode cX11_fill 40 = .ok (.iconst 1, 1) := by decide +kernel
theorem dX11_fill_41 : decode cX11_fill 41 = .ok (.istore 6, 2) := by decide +kernel
theorem dX11_fill_43 : decode cX11_fill 43 = .ok (.iload 6, 2) := by decide +kernel
theorem dX11_fill_45 : decode cX11_fill 45 = .ok (.iconst 1, 1) := by decide +kernel
theorem dX11_fill_46 : decode cX11_fill 46 = .ok (.aload_n 0, 1) := by decide +kernel
theorem dX11_fill_47 : decode cX11_fill 47 = .ok (.getfield 467, 3) := by decide +kernel
theorem dX11_fill_50 : decode cX11_fill 50 = .ok (.ishl, 1) := by decide +kernel
theorem dX11_fill_51 : decode cX11_fill 51 = .ok (.if_icmp .ge 113, 3) := by decide +kernel
theorem dX11_fill_54 : decode cX11_fill 54 = .ok (.iconst 0, 1) := by decide +kernel
theorem dX11_fill_55 : decode cX11_fill 55 = .ok (.istore 7, 2) := by decide +kernel
theorem dX11_fill_57 : decode cX11_fill 57 = .ok (.iconst 0, 1) := by decide +kernel
theorem dX11_fill_58 : decode cX11_fill 58 = .ok (.istore 8, 2) := by decide +kernel
theorem dX11_fill_60 : decode cX11_fill 60 = .ok (.iconst 0, 1) := by decide +kernel
theorem dX11_fill_61 : decode cX11_fill 61 = .ok (.istore 9, 2) := by decide +kernel
theorem dX11_fill_63 : decode cX11_fill 63 = .ok (.iload 9, 2) := by decide +kernel
theorem dX11_fill_65 : decode cX11_fill 65 = .ok (.aload_n 0, 1) := by decide +kernel
theorem dX11_fill_66 : decode cX11_fill 66 = .ok (.getfield 467, 3) := by decide +kernel
theorem dX11_fill_69 : decode cX11_fill 69 = .ok (.if_icmp .ge 65, 3) := by decide +kernel
theorem dX11_fill_72 : decode cX11_fill 72 = .ok (.iload 6, 2) := by decide +kernel
theorem dX11_fill_74 : decode cX11_fill 74 = .ok (.iload 9, 2) := by decide +kernel
theorem dX11_fill_76 : decode cX11_fill 76 = .ok (.ishr, 1) := by decide +kernel
theorem dX11_fill_77 : decode cX11_fill 77 = .ok (.iconst 1, 1) := by decide +kernel
theorem dX11_fill_78 : decode cX11_fill 78 = .ok (.iand, 1) := by decide +kernel
theorem dX11_fill_79 : decode cX11_fill 79 = .ok (.ifCond .ne 6, 3) := by decide +kernel
theorem dX11_fill_82 : decode cX11_fill 82 = .ok (.goto 46, 3) := by decide +kernel
theorem dX11_fill_85 : decode cX11_fill 85 = .ok (.iload 7, 2) := by decide +kernel
theorem dX11_fill_87 : decode cX11_fill 87 = .ok (.aload_n 0, 1) := by decide +kernel
theorem dX11_fill_88 : decode cX11_fill 88 = .ok (.iload 9, 2) := by decide +kernel
theorem dX11_fill_90 : decode cX11_fill 90 = .ok (.invokevirtual 501, 3) := by decide +kernel
theorem dX11_fill_93 : decode cX11_fill 93 = .ok (.ifCond .eq 17, 3) := by decide +kernel
theorem dX11_fill_96 : decode cX11_fill 96 = .ok (.aload_n 0, 1) := by decide +kernel
theorem dX11_fill_97 : decode cX11_fill 97 = .ok (.getfield 121, 3) := by decide +kernel
theorem dX11_fill_100 : decode cX11_fill 100 = .ok (.iconst 5, 1) := by decide +kernel
theorem dX11_fill_101 : decode cX11_fill 101 = .ok (.iload 9, 2) := by decide +kernel
theorem dX11_fill_103 : decode cX11_fill 103 = .ok (.imul, 1) := by decide +kernel
theorem dX11_fill_104 : decode cX11_fill 104 = .ok (.iconst 4, 1) := by decide +kernel
theorem dX11_fill_105 : decode cX11_fill 105 = .ok (.iadd, 1) := by decide +kernel
theorem dX11_fill_106 : decode cX11_fill 106 = .ok (.iaload, 1) := by decide +kernel
theorem dX11_fill_107 : decode cX11_fill 107 = .ok (.goto 6, 3) := by decide +kernel
theorem dX11_fill_110 : decode cX11_fill 110 = .ok (.sipush 1000, 3) := by decide +kernel
theorem dX11_fill_113 : decode cX11_fill 113 = .ok (.iadd, 1) := by decide +kernel
theorem dX11_fill_114 : decode cX11_fill 114 = .ok (.istore 7, 2) := by decide +kernel
theorem dX11_fill_116 : decode cX11_fill 116 = .ok (.iload 8, 2) := by decide +kernel
theorem dX11_fill_118 : decode cX11_fill 118 = .ok (.aload_n 0, 1) := by decide +kernel
theorem dX11_fill_119 : decode cX11_fill 119 = .ok (.iload_n 1, 1) := by decide +kernel
theorem dX11_fill_120 : decode cX11_fill 120 = .ok (.iload 9, 2) := by decide +kernel
theorem dX11_fill_122 : decode cX11_fill 122 = .ok (.invokevirtual 644, 3) := by decide +kernel
theorem dX11_fill_125 : decode cX11_fill 125 = .ok (.iadd, 1) := by decide +kernel
theorem dX11_fill_126 : decode cX11_fill 126 = .ok (.istore 8, 2) := by decide +kernel
theorem dX11_fill_128 : decode cX11_fill 128 = .ok (.iinc 9 1, 3) := by decide +kernel
theorem dX11_fill_131 : decode cX11_fill 131 = .ok (.goto (-68), 3) := by decide +kernel
theorem dX11_fill_134 : decode cX11_fill 134 = .ok (.iload 7, 2) := by decide +kernel
theorem dX11_fill_136 : decode cX11_fill 136 = .ok (.iload_n 2, 1) := by decide +kernel
theorem dX11_fill_137 : decode cX11_fill 137 = .ok (.if_icmp .gt 21, 3) := by decide +kernel
theorem dX11_fill_140 : decode cX11_fill 140 = .ok (.iload 8, 2) := by decide +kernel
theorem dX11_fill_142 : decode cX11_fill 142 = .ok (.iload 5, 2) := by decide +kernel
theorem dX11_fill_144 : decode cX11_fill 144 = .ok (.if_icmp .gt 6, 3) := by decide +kernel
theorem dX11_fill_147 : decode cX11_fill 147 = .ok (.goto 11, 3) := by decide +kernel
theorem dX11_fill_150 : decode cX11_fill 150 = .ok (.iload 6, 2) := by decide +kernel
theorem dX11_fill_152 : decode cX11_fill 152 = .ok (.istore 4, 2) := by decide +kernel
theorem dX11_fill_154 : decode cX11_fill 154 = .ok (.iload 8, 2) := by decide +kernel
theorem dX11_fill_156 : decode cX11_fill 156 = .ok (.istore 5, 2) := by decide +kernel
theorem dX11_fill_158 : decode cX11_fill 158 = .ok (.iinc 6 1, 3) := by decide +kernel
theorem dX11_fill_161 : decode cX11_fill 161 = .ok (.goto (-118), 3) := by decide +kernel
theorem dX11_fill_164 : decode cX11_fill 164 = .ok (.iload_n 3, 1) := by decide +kernel
theorem dX11_fill_165 : decode cX11_fill 165 = .ok (.ifCond .ne 8, 3) := by decide +kernel
theorem dX11_fill_168 : decode cX11_fill 168 = .ok (.iload 4, 2) := by decide +kernel
theorem dX11_fill_170 : decode cX11_fill 170 = .ok (.goto 5, 3) := by decide +kernel
theorem dX11_fill_173 : decode cX11_fill 173 = .ok (.iload 5, 2) := by decide +kernel
theorem dX11_fill_175 : decode cX11_fill 175 = .ok (.ireturn, 1) := by decide +kernel
theorem dX11_common_0 : decode cX11_common 0 = .ok (.iload_n 0, 1) := by decide +kernel
theorem dX11_common_1 : decode cX11_common 1 = .ok (.istore_n 2, 1) := by decide +kernel
theorem dX11_common_2 : decode cX11_common 2 = .ok (.iload_n 1, 1) := by decide +kernel
theorem dX11_common_3 : decode cX11_common 3 = .ok (.istore_n 3, 1) := by decide +kernel
theorem dX11_common_4 : decode cX11_common 4 = .ok (.iload_n 3, 1) := by decide +kernel
theorem dX11_common_5 : decode cX11_common 5 = .ok (.ifCond .le 16, 3) := by decide +kernel
theorem dX11_common_8 : decode cX11_common 8 = .ok (.iload_n 2, 1) := by decide +kernel
theorem dX11_common_9 : decode cX11_common 9 = .ok (.iload_n 3, 1) := by decide +kernel
theorem dX11_common_10 : decode cX11_common 10 = .ok (.irem, 1) := by decide +kernel
theorem dX11_common_11 : decode cX11_common 11 = .ok (.istore 4, 2) := by decide +kernel
theorem dX11_common_13 : decode cX11_common 13 = .ok (.iload_n 3, 1) := by decide +kernel
theorem dX11_common_14 : decode cX11_common 14 = .ok (.istore_n 2, 1) := by decide +kernel
theorem dX11_common_15 : decode cX11_common 15 = .ok (.iload 4, 2) := by decide +kernel
theorem dX11_common_17 : decode cX11_common 17 = .ok (.istore_n 3, 1) := by decide +kernel
theorem dX11_common_18 : decode cX11_common 18 = .ok (.goto (-14), 3) := by decide +kernel
theorem dX11_common_21 : decode cX11_common 21 = .ok (.iload_n 2, 1) := by decide +kernel
theorem dX11_common_22 : decode cX11_common 22 = .ok (.ireturn, 1) := by decide +kernel
theorem dX11_coin_0 : decode cX11_coin 0 = .ok (.aload_n 0, 1) := by decide +kernel
theorem dX11_coin_1 : decode cX11_coin 1 = .ok (.iload_n 1, 1) := by decide +kernel
theorem dX11_coin_2 : decode cX11_coin 2 = .ok (.invokevirtual 560, 3) := by decide +kernel
theorem dX11_coin_5 : decode cX11_coin 5 = .ok (.ifCond .eq 12, 3) := by decide +kernel
theorem dX11_coin_8 : decode cX11_coin 8 = .ok (.iload_n 2, 1) := by decide +kernel
theorem dX11_coin_9 : decode cX11_coin 9 = .ok (.iconst 0, 1) := by decide +kernel
theorem dX11_coin_10 : decode cX11_coin 10 = .ok (.iconst 1, 1) := by decide +kernel
theorem dX11_coin_11 : decode cX11_coin 11 = .ok (.invokestatic 494, 3) := by decide +kernel
theorem dX11_coin_14 : decode cX11_coin 14 = .ok (.ifCond .ne 5, 3) := by decide +kernel
theorem dX11_coin_17 : decode cX11_coin 17 = .ok (.iconst (-1), 1) := by decide +kernel
theorem dX11_coin_18 : decode cX11_coin 18 = .ok (.ireturn, 1) := by decide +kernel
theorem dX11_coin_19 : decode cX11_coin 19 = .ok (.aload_n 0, 1) := by decide +kernel
theorem dX11_coin_20 : decode cX11_coin 20 = .ok (.invokevirtual 566, 3) := by decide +kernel
theorem dX11_coin_23 : decode cX11_coin 23 = .ok (.iconst 0, 1) := by decide +kernel
theorem dX11_coin_24 : decode cX11_coin 24 = .ok (.istore_n 3, 1) := by decide +kernel
theorem dX11_coin_25 : decode cX11_coin 25 = .ok (.iconst 0, 1) := by decide +kernel
theorem dX11_coin_26 : decode cX11_coin 26 = .ok (.istore 4, 2) := by decide +kernel
theorem dX11_coin_28 : decode cX11_coin 28 = .ok (.iload 4, 2) := by decide +kernel
theorem dX11_coin_30 : decode cX11_coin 30 = .ok (.aload_n 0, 1) := by decide +kernel
theorem dX11_coin_31 : decode cX11_coin 31 = .ok (.getfield 467, 3) := by decide +kernel
theorem dX11_coin_34 : decode cX11_coin 34 = .ok (.if_icmp .ge 32, 3) := by decide +kernel
theorem dX11_coin_37 : decode cX11_coin 37 = .ok (.iload_n 3, 1) := by decide +kernel
theorem dX11_coin_38 : decode cX11_coin 38 = .ok (.aload_n 0, 1) := by decide +kernel
theorem dX11_coin_39 : decode cX11_coin 39 = .ok (.iload 4, 2) := by decide +kernel
theorem dX11_coin_41 : decode cX11_coin 41 = .ok (.invokevirtual 501, 3) := by decide +kernel
theorem dX11_coin_44 : decode cX11_coin 44 = .ok (.ifCond .eq 13, 3) := by decide +kernel
theorem dX11_coin_47 : decode cX11_coin 47 = .ok (.aload_n 0, 1) := by decide +kernel
theorem dX11_coin_48 : decode cX11_coin 48 = .ok (.getfield 94, 3) := by decide +kernel
theorem dX11_coin_51 : decode cX11_coin 51 = .ok (.iload 4, 2) := by decide +kernel
theorem dX11_coin_53 : decode cX11_coin 53 = .ok (.iaload, 1) := by decide +kernel
theorem dX11_coin_54 : decode cX11_coin 54 = .ok (.goto 4, 3) := by decide +kernel
theorem dX11_coin_57 : decode cX11_coin 57 = .ok (.iconst 0, 1) := by decide +kernel
theorem dX11_coin_58 : decode cX11_coin 58 = .ok (.iadd, 1) := by decide +kernel
theorem dX11_coin_59 : decode cX11_coin 59 = .ok (.istore_n 3, 1) := by decide +kernel
theorem dX11_coin_60 : decode cX11_coin 60 = .ok (.iinc 4 1, 3) := by decide +kernel
theorem dX11_coin_63 : decode cX11_coin 63 = .ok (.goto (-35), 3) := by decide +kernel
theorem dX11_coin_66 : decode cX11_coin 66 = .ok (.aload_n 0, 1) := by decide +kernel
theorem dX11_coin_67 : decode cX11_coin 67 = .ok (.iload_n 1, 1) := by decide +kernel
theorem dX11_coin_68 : decode cX11_coin 68 = .ok (.invokevirtual 501, 3) := by decide +kernel
theorem dX11_coin_71 : decode cX11_coin 71 = .ok (.ifCond .eq 7, 3) := by decide +kernel
theorem dX11_coin_74 : decode cX11_coin 74 = .ok (.iload_n 3, 1) := by decide +kernel
theorem dX11_coin_75 : decode cX11_coin 75 = .ok (.ifCond .ne 5, 3) := by decide +kernel
theorem dX11_coin_78 : decode cX11_coin 78 = .ok (.iload_n 2, 1) := by decide +kernel
theorem dX11_coin_79 : decode cX11_coin 79 = .ok (.ireturn, 1) := by decide +kernel
theorem dX11_coin_80 : decode cX11_coin 80 = .ok (.aload_n 0, 1) := by decide +kernel
theorem dX11_coin_81 : decode cX11_coin 81 = .ok (.getfield 94, 3) := by decide +kernel
theorem dX11_coin_84 : decode cX11_coin 84 = .ok (.iload_n 1, 1) := by decide +kernel
theorem dX11_coin_85 : decode cX11_coin 85 = .ok (.iaload, 1) := by decide +kernel
theorem dX11_coin_86 : decode cX11_coin 86 = .ok (.iload_n 3, 1) := by decide +kernel
theorem dX11_coin_87 : decode cX11_coin 87 = .ok (.invokestatic 647, 3) := by decide +kernel
theorem dX11_coin_90 : decode cX11_coin 90 = .ok (.istore 4, 2) := by decide +kernel
theorem dX11_coin_92 : decode cX11_coin 92 = .ok (.iload_n 2, 1) := by decide +kernel
theorem dX11_coin_93 : decode cX11_coin 93 = .ok (.ifCond .ne 15, 3) := by decide +kernel
theorem dX11_coin_96 : decode cX11_coin 96 = .ok (.aload_n 0, 1) := by decide +kernel
theorem dX11_coin_97 : decode cX11_coin 97 = .ok (.getfield 94, 3) := by decide +kernel
theorem dX11_coin_100 : decode cX11_coin 100 = .ok (.iload_n 1, 1) := by decide +kernel
theorem dX11_coin_101 : decode cX11_coin 101 = .ok (.iaload, 1) := by decide +kernel
theorem dX11_coin_102 : decode cX11_coin 102 = .ok (.iload 4, 2) := by decide +kernel
theorem dX11_coin_104 : decode cX11_coin 104 = .ok (.idiv, 1) := by decide +kernel
theorem dX11_coin_105 : decode cX11_coin 105 = .ok (.goto 7, 3) := by decide +kernel
theorem dX11_coin_108 : decode cX11_coin 108 = .ok (.iload_n 3, 1) := by decide +kernel
theorem dX11_coin_109 : decode cX11_coin 109 = .ok (.iload 4, 2) := by decide +kernel
theorem dX11_coin_111 : decode cX11_coin 111 = .ok (.idiv, 1) := by decide +kernel
theorem dX11_coin_112 : decode cX11_coin 112 = .ok (.ireturn, 1) := by decide +kernel
theorem dX11_lies_0 : decode cX11_lies 0 = .ok (.iload_n 1, 1) := by decide +kernel
theorem dX11_lies_1 : decode cX11_lies 1 = .ok (.iconst 0, 1) := by decide +kernel
theorem dX11_lies_2 : decode cX11_lies 2 = .ok (.aload_n 0, 1) := by decide +kernel
theorem dX11_lies_3 : decode cX11_lies 3 = .ok (.getfield 491, 3) := by decide +kernel
theorem dX11_lies_6 : decode cX11_lies 6 = .ok (.iconst 1, 1) := by decide +kernel
theorem dX11_lies_7 : decode cX11_lies 7 = .ok (.isub, 1) := by decide +kernel
theorem dX11_lies_8 : decode cX11_lies 8 = .ok (.invokestatic 494, 3) := by decide +kernel
theorem dX11_lies_11 : decode cX11_lies 11 = .ok (.ifCond .eq 12, 3) := by decide +kernel
theorem dX11_lies_14 : decode cX11_lies 14 = .ok (.aload_n 0, 1) := by decide +kernel
theorem dX11_lies_15 : decode cX11_lies 15 = .ok (.getfield 157, 3) := by decide +kernel
theorem dX11_lies_18 : decode cX11_lies 18 = .ok (.iload_n 1, 1) := by decide +kernel
theorem dX11_lies_19 : decode cX11_lies 19 = .ok (.iaload, 1) := by decide +kernel
theorem dX11_lies_20 : decode cX11_lies 20 = .ok (.goto 4, 3) := by decide +kernel
theorem dX11_lies_23 : decode cX11_lies 23 = .ok (.iconst (-1), 1) := by decide +kernel
theorem dX11_lies_24 : decode cX11_lies 24 = .ok (.ireturn, 1) := by decide +kernel
theorem dX11_pick_0 : decode cX11_pick 0 = .ok (.aload_n 0, 1) := by decide +kernel
theorem dX11_pick_1 : decode cX11_pick 1 = .ok (.iload_n 1, 1) := by decide +kernel
theorem dX11_pick_2 : decode cX11_pick 2 = .ok (.invokevirtual 563, 3) := by decide +kernel
theorem dX11_pick_5 : decode cX11_pick 5 = .ok (.ifCond .eq 44, 3) := by decide +kernel
theorem dX11_pick_8 : decode cX11_pick 8 = .ok (.iload_n 2, 1) := by decide +kernel
theorem dX11_pick_9 : decode cX11_pick 9 = .ok (.iconst 1, 1) := by decide +kernel
theorem dX11_pick_10 : decode cX11_pick 10 = .ok (.iconst 1, 1) := by decide +kernel
theorem dX11_pick_11 : decode cX11_pick 11 = .ok (.aload_n 0, 1) := by decide +kernel
theorem dX11_pick_12 : decode cX11_pick 12 = .ok (.getfield 467, 3) := by decide +kernel
theorem dX11_pick_15 : decode cX11_pick 15 = .ok (.ishl, 1) := by decide +kernel
theorem dX11_pick_16 : decode cX11_pick 16 = .ok (.iconst 1, 1) := by decide +kernel
theorem dX11_pick_17 : decode cX11_pick 17 = .ok (.isub, 1) := by decide +kernel
theorem dX11_pick_18 : decode cX11_pick 18 = .ok (.invokestatic 494, 3) := by decide +kernel
theorem dX11_pick_21 : decode cX11_pick 21 = .ok (.ifCond .eq 28, 3) := by decide +kernel
theorem dX11_pick_24 : decode cX11_pick 24 = .ok (.aload_n 0, 1) := by decide +kernel
theorem dX11_pick_25 : decode cX11_pick 25 = .ok (.iload_n 3, 1) := by decide +kernel
theorem dX11_pick_26 : decode cX11_pick 26 = .ok (.invokevirtual 560, 3) := by decide +kernel
theorem dX11_pick_29 : decode cX11_pick 29 = .ok (.ifCond .eq 20, 3) := by decide +kernel
theorem dX11_pick_32 : decode cX11_pick 32 = .ok (.iload_n 2, 1) := by decide +kernel
theorem dX11_pick_33 : decode cX11_pick 33 = .ok (.iload_n 3, 1) := by decide +kernel
theorem dX11_pick_34 : decode cX11_pick 34 = .ok (.ishr, 1) := by decide +kernel
theorem dX11_pick_35 : decode cX11_pick 35 = .ok (.iconst 1, 1) := by decide +kernel
theorem dX11_pick_36 : decode cX11_pick 36 = .ok (.iand, 1) := by decide +kernel
theorem dX11_pick_37 : decode cX11_pick 37 = .ok (.ifCond .eq 12, 3) := by decide +kernel
theorem dX11_pick_40 : decode cX11_pick 40 = .ok (.aload_n 0, 1) := by decide +kernel
theorem dX11_pick_41 : decode cX11_pick 41 = .ok (.getfield 488, 3) := by decide +kernel
theorem dX11_pick_44 : decode cX11_pick 44 = .ok (.bipush 30, 2) := by decide +kernel
theorem dX11_pick_46 : decode cX11_pick 46 = .ok (.if_icmp .ne 5, 3) := by decide +kernel
theorem dX11_pick_49 : decode cX11_pick 49 = .ok (.iconst (-1), 1) := by decide +kernel
theorem dX11_pick_50 : decode cX11_pick 50 = .ok (.ireturn, 1) := by decide +kernel
theorem dX11_pick_51 : decode cX11_pick 51 = .ok (.aload_n 0, 1) := by decide +kernel
theorem dX11_pick_52 : decode cX11_pick 52 = .ok (.getfield 163, 3) := by decide +kernel
theorem dX11_pick_55 : decode cX11_pick 55 = .ok (.aload_n 0, 1) := by decide +kernel
theorem dX11_pick_56 : decode cX11_pick 56 = .ok (.getfield 488, 3) := by decide +kernel
theorem dX11_pick_59 : decode cX11_pick 59 = .ok (.iload_n 1, 1) := by decide +kernel
theorem dX11_pick_60 : decode cX11_pick 60 = .ok (.iastore, 1) := by decide +kernel
theorem dX11_pick_61 : decode cX11_pick 61 = .ok (.aload_n 0, 1) := by decide +kernel
theorem dX11_pick_62 : decode cX11_pick 62 = .ok (.getfield 166, 3) := by decide +kernel
theorem dX11_pick_65 : decode cX11_pick 65 = .ok (.aload_n 0, 1) := by decide +kernel
theorem dX11_pick_66 : decode cX11_pick 66 = .ok (.getfield 488, 3) := by decide +kernel
theorem dX11_pick_69 : decode cX11_pick 69 = .ok (.iload_n 2, 1) := by decide +kernel
theorem dX11_pick_70 : decode cX11_pick 70 = .ok (.iastore, 1) := by decide +kernel
theorem dX11_pick_71 : decode cX11_pick 71 = .ok (.aload_n 0, 1) := by decide +kernel
theorem dX11_pick_72 : decode cX11_pick 72 = .ok (.getfield 169, 3) := by decide +kernel
theorem dX11_pick_75 : decode cX11_pick 75 = .ok (.aload_n 0, 1) := by decide +kernel
theorem dX11_pick_76 : decode cX11_pick 76 = .ok (.getfield 488, 3) := by decide +kernel
theorem dX11_pick_79 : decode cX11_pick 79 = .ok (.iload_n 3, 1) := by decide +kernel
theorem dX11_pick_80 : decode cX11_pick 80 = .ok (.iastore, 1) := by decide +kernel
theorem dX11_pick_81 : decode cX11_pick 81 = .ok (.aload_n 0, 1) := by decide +kernel
theorem dX11_pick_82 : decode cX11_pick 82 = .ok (.getfield 172, 3) := by decide +kernel
theorem dX11_pick_85 : decode cX11_pick 85 = .ok (.aload_n 0, 1) := by decide +kernel
theorem dX11_pick_86 : decode cX11_pick 86 = .ok (.getfield 488, 3) := by decide +kernel
theorem dX11_pick_89 : decode cX11_pick 89 = .ok (.aload_n 0, 1) := by decide +kernel
theorem dX11_pick_90 : decode cX11_pick 90 = .ok (.getfield 650, 3) := by decide +kernel
theorem dX11_pick_93 : decode cX11_pick 93 = .ok (.iastore, 1) := by decide +kernel
theorem dX11_pick_94 : decode cX11_pick 94 = .ok (.aload_n 0, 1) := by decide +kernel
theorem dX11_pick_95 : decode cX11_pick 95 = .ok (.getfield 175, 3) := by decide +kernel
theorem dX11_pick_98 : decode cX11_pick 98 = .ok (.aload_n 0, 1) := by decide +kernel
theorem dX11_pick_99 : decode cX11_pick 99 = .ok (.getfield 488, 3) := by decide +kernel
theorem dX11_pick_102 : decode cX11_pick 102 = .ok (.iconst (-1), 1) := by decide +kernel
theorem dX11_pick_103 : decode cX11_pick 103 = .ok (.iastore, 1) := by decide +kernel
theorem dX11_pick_104 : decode cX11_pick 104 = .ok (.aload_n 0, 1) := by decide +kernel
theorem dX11_pick_105 : decode cX11_pick 105 = .ok (.dup, 1) := by decide +kernel
theorem dX11_pick_106 : decode cX11_pick 106 = .ok (.getfield 488, 3) := by decide +kernel
theorem dX11_pick_109 : decode cX11_pick 109 = .ok (.iconst 1, 1) := by decide +kernel
theorem dX11_pick_110 : decode cX11_pick 110 = .ok (.iadd, 1) := by decide +kernel
theorem dX11_pick_111 : decode cX11_pick 111 = .ok (.putfield 488, 3) := by decide +kernel
theorem dX11_pick_114 : decode cX11_pick 114 = .ok (.aload_n 0, 1) := by decide +kernel
theorem dX11_pick_115 : decode cX11_pick 115 = .ok (.getfield 488, 3) := by decide +kernel
theorem dX11_pick_118 : decode cX11_pick 118 = .ok (.iconst 1, 1) := by decide +kernel
theorem dX11_pick_119 : decode cX11_pick 119 = .ok (.isub, 1) := by decide +kernel
theorem dX11_pick_120 : decode cX11_pick 120 = .ok (.ireturn, 1) := by decide +kernel
theorem dX11_untell_0 : decode cX11_untell 0 = .ok (.iload_n 1, 1) := by decide +kernel
theorem dX11_untell_1 : decode cX11_untell 1 = .ok (.iconst 0, 1) := by decide +kernel
theorem dX11_untell_2 : decode cX11_untell 2 = .ok (.aload_n 0, 1) := by decide +kernel
theorem dX11_untell_3 : decode cX11_untell 3 = .ok (.getfield 488, 3) := by decide +kernel
theorem dX11_untell_6 : decode cX11_untell 6 = .ok (.iconst 1, 1) := by decide +kernel
theorem dX11_untell_7 : decode cX11_untell 7 = .ok (.isub, 1) := by decide +kernel
theorem dX11_untell_8 : decode cX11_untell 8 = .ok (.invokestatic 494, 3) := by decide +kernel
theorem dX11_untell_11 : decode cX11_untell 11 = .ok (.ifCond .eq 12, 3) := by decide +kernel
theorem dX11_untell_14 : decode cX11_untell 14 = .ok (.aload_n 0, 1) := by decide +kernel
theorem dX11_untell_15 : decode cX11_untell 15 = .ok (.getfield 175, 3) := by decide +kernel
theorem dX11_untell_18 : decode cX11_untell 18 = .ok (.iload_n 1, 1) := by decide +kernel
theorem dX11_untell_19 : decode cX11_untell 19 = .ok (.iaload, 1) := by decide +kernel
theorem dX11_untell_20 : decode cX11_untell 20 = .ok (.ifCond .lt 5, 3) := by decide +kernel
theorem dX11_untell_23 : decode cX11_untell 23 = .ok (.iconst 0, 1) := by decide +kernel
theorem dX11_untell_24 : decode cX11_untell 24 = .ok (.ireturn, 1) := by decide +kernel
theorem dX11_untell_25 : decode cX11_untell 25 = .ok (.aload_n 0, 1) := by decide +kernel
theorem dX11_untell_26 : decode cX11_untell 26 = .ok (.getfield 175, 3) := by decide +kernel
theorem dX11_untell_29 : decode cX11_untell 29 = .ok (.iload_n 1, 1) := by decide +kernel
theorem dX11_untell_30 : decode cX11_untell 30 = .ok (.aload_n 0, 1) := by decide +kernel
theorem dX11_untell_31 : decode cX11_untell 31 = .ok (.getfield 650, 3) := by decide +kernel
theorem dX11_untell_34 : decode cX11_untell 34 = .ok (.iastore, 1) := by decide +kernel
theorem dX11_untell_35 : decode cX11_untell 35 = .ok (.iconst 1, 1) := by decide +kernel
theorem dX11_untell_36 : decode cX11_untell 36 = .ok (.ireturn, 1) := by decide +kernel
theorem dX11_later_0 : decode cX11_later 0 = .ok (.iload_n 1, 1) := by decide +kernel
theorem dX11_later_1 : decode cX11_later 1 = .ok (.ifCond .lt 22, 3) := by decide +kernel
theorem dX11_later_4 : decode cX11_later 4 = .ok (.iload_n 1, 1) := by decide +kernel
theorem dX11_later_5 : decode cX11_later 5 = .ok (.sipush 1000, 3) := by decide +kernel
theorem dX11_later_8 : decode cX11_later 8 = .ok (.if_icmp .gt 15, 3) := by decide +kernel
theorem dX11_later_11 : decode cX11_later 11 = .ok (.aload_n 0, 1) := by decide +kernel
theorem dX11_later_12 : decode cX11_later 12 = .ok (.getfield 650, 3) := by decide +kernel
theorem dX11_later_15 : decode cX11_later 15 = .ok (.iload_n 1, 1) := by decide +kernel
theorem dX11_later_16 : decode cX11_later 16 = .ok (.iadd, 1) := by decide +kernel
theorem dX11_later_17 : decode cX11_later 17 = .ok (.ldc_w 653, 3) := by decide +kernel
theorem dX11_later_20 : decode cX11_later 20 = .ok (.if_icmp .le 5, 3) := by decide +kernel
theorem dX11_later_23 : decode cX11_later 23 = .ok (.iconst (-1), 1) := by decide +kernel
theorem dX11_later_24 : decode cX11_later 24 = .ok (.ireturn, 1) := by decide +kernel
theorem dX11_later_25 : decode cX11_later 25 = .ok (.aload_n 0, 1) := by decide +kernel
theorem dX11_later_26 : decode cX11_later 26 = .ok (.dup, 1) := by decide +kernel
theorem dX11_later_27 : decode cX11_later 27 = .ok (.getfield 650, 3) := by decide +kernel
theorem dX11_later_30 : decode cX11_later 30 = .ok (.iload_n 1, 1) := by decide +kernel
theorem dX11_later_31 : decode cX11_later 31 = .ok (.iadd, 1) := by decide +kernel
theorem dX11_later_32 : decode cX11_later 32 = .ok (.putfield 650, 3) := by decide +kernel
theorem dX11_later_35 : decode cX11_later 35 = .ok (.aload_n 0, 1) := by decide +kernel
theorem dX11_later_36 : decode cX11_later 36 = .ok (.getfield 650, 3) := by decide +kernel
theorem dX11_later_39 : decode cX11_later 39 = .ok (.ireturn, 1) := by decide +kernel
theorem dX11_counts_0 : decode cX11_counts 0 = .ok (.aload_n 0, 1) := by decide +kernel
theorem dX11_counts_1 : decode cX11_counts 1 = .ok (.getfield 172, 3) := by decide +kernel
theorem dX11_counts_4 : decode cX11_counts 4 = .ok (.iload_n 1, 1) := by decide +kernel
theorem dX11_counts_5 : decode cX11_counts 5 = .ok (.iaload, 1) := by decide +kernel
theorem dX11_counts_6 : decode cX11_counts 6 = .ok (.iload_n 2, 1) := by decide +kernel
theorem dX11_counts_7 : decode cX11_counts 7 = .ok (.if_icmp .gt 26, 3) := by decide +kernel
theorem dX11_counts_10 : decode cX11_counts 10 = .ok (.aload_n 0, 1) := by decide +kernel
theorem dX11_counts_11 : decode cX11_counts 11 = .ok (.getfield 175, 3) := by decide +kernel
theorem dX11_counts_14 : decode cX11_counts 14 = .ok (.iload_n 1, 1) := by decide +kernel
theorem dX11_counts_15 : decode cX11_counts 15 = .ok (.iaload, 1) := by decide +kernel
theorem dX11_counts_16 : decode cX11_counts 16 = .ok (.ifCond .lt 13, 3) := by decide +kernel
theorem dX11_counts_19 : decode cX11_counts 19 = .ok (.aload_n 0, 1) := by decide +kernel
theorem dX11_counts_20 : decode cX11_counts 20 = .ok (.getfield 175, 3) := by decide +kernel
theorem dX11_counts_23 : decode cX11_counts 23 = .ok (.iload_n 1, 1) := by decide +kernel
theorem dX11_counts_24 : decode cX11_counts 24 = .ok (.iaload, 1) := by decide +kernel
theorem dX11_counts_25 : decode cX11_counts 25 = .ok (.iload_n 2, 1) := by decide +kernel
theorem dX11_counts_26 : decode cX11_counts 26 = .ok (.if_icmp .le 7, 3) := by decide +kernel
theorem dX11_counts_29 : decode cX11_counts 29 = .ok (.iconst 1, 1) := by decide +kernel
theorem dX11_counts_30 : decode cX11_counts 30 = .ok (.goto 4, 3) := by decide +kernel
theorem dX11_counts_33 : decode cX11_counts 33 = .ok (.iconst 0, 1) := by decide +kernel
theorem dX11_counts_34 : decode cX11_counts 34 = .ok (.ireturn, 1) := by decide +kernel
theorem dX11_takenBy_0 : decode cX11_takenBy 0 = .ok (.iconst (-1), 1) := by decide +kernel
theorem dX11_takenBy_1 : decode cX11_takenBy 1 = .ok (.istore_n 3, 1) := by decide +kernel
theorem dX11_takenBy_2 : decode cX11_takenBy 2 = .ok (.iconst 0, 1) := by decide +kernel
theorem dX11_takenBy_3 : decode cX11_takenBy 3 = .ok (.istore 4, 2) := by decide +kernel
theorem dX11_takenBy_5 : decode cX11_takenBy 5 = .ok (.iconst 0, 1) := by decide +kernel
theorem dX11_takenBy_6 : decode cX11_takenBy 6 = .ok (.istore 5, 2) := by decide +kernel
theorem dX11_takenBy_8 : decode cX11_takenBy 8 = .ok (.iload 5, 2) := by decide +kernel
theorem dX11_takenBy_10 : decode cX11_takenBy 10 = .ok (.aload_n 0, 1) := by decide +kernel
theorem dX11_takenBy_11 : decode cX11_takenBy 11 = .ok (.getfield 467, 3) := by decide +kernel
theorem dX11_takenBy_14 : decode cX11_takenBy 14 = .ok (.if_icmp .ge 78, 3) := by decide +kernel
theorem dX11_takenBy_17 : decode cX11_takenBy 17 = .ok (.aload_n 0, 1) := by decide +kernel
theorem dX11_takenBy_18 : decode cX11_takenBy 18 = .ok (.getfield 166, 3) := by decide +kernel
theorem dX11_takenBy_21 : decode cX11_takenBy 21 = .ok (.iload_n 2, 1) := by decide +kernel
theorem dX11_takenBy_22 : decode cX11_takenBy 22 = .ok (.iaload, 1) := by decide +kernel
theorem dX11_takenBy_23 : decode cX11_takenBy 23 = .ok (.iload 5, 2) := by decide +kernel
theorem dX11_takenBy_25 : decode cX11_takenBy 25 = .ok (.ishr, 1) := by decide +kernel
theorem dX11_takenBy_26 : decode cX11_takenBy 26 = .ok (.iconst 1, 1) := by decide +kernel
theorem dX11_takenBy_27 : decode cX11_takenBy 27 = .ok (.iand, 1) := by decide +kernel
theorem dX11_takenBy_28 : decode cX11_takenBy 28 = .ok (.ifCond .ne 6, 3) := by decide +kernel
theorem dX11_takenBy_31 : decode cX11_takenBy 31 = .ok (.goto 55, 3) := by decide +kernel
theorem dX11_takenBy_34 : decode cX11_takenBy 34 = .ok (.aload_n 0, 1) := by decide +kernel
theorem dX11_takenBy_35 : decode cX11_takenBy 35 = .ok (.iconst 5, 1) := by decide +kernel
theorem dX11_takenBy_36 : decode cX11_takenBy 36 = .ok (.iload_n 1, 1) := by decide +kernel
theorem dX11_takenBy_37 : decode cX11_takenBy 37 = .ok (.iadd, 1) := by decide +kernel
theorem dX11_takenBy_38 : decode cX11_takenBy 38 = .ok (.aload_n 0, 1) := by decide +kernel
theorem dX11_takenBy_39 : decode cX11_takenBy 39 = .ok (.getfield 163, 3) := by decide +kernel
theorem dX11_takenBy_42 : decode cX11_takenBy 42 = .ok (.iload_n 2, 1) := by decide +kernel
theorem dX11_takenBy_43 : decode cX11_takenBy 43 = .ok (.iaload, 1) := by decide +kernel
theorem dX11_takenBy_44 : decode cX11_takenBy 44 = .ok (.iload 5, 2) := by decide +kernel
theorem dX11_takenBy_46 : decode cX11_takenBy 46 = .ok (.iconst 0, 1) := by decide +kernel
theorem dX11_takenBy_47 : decode cX11_takenBy 47 = .ok (.aload_n 0, 1) := by decide +kernel
theorem dX11_takenBy_48 : decode cX11_takenBy 48 = .ok (.aload_n 0, 1) := by decide +kernel
theorem dX11_takenBy_49 : decode cX11_takenBy 49 = .ok (.getfield 163, 3) := by decide +kernel
theorem dX11_takenBy_52 : decode cX11_takenBy 52 = .ok (.iload_n 2, 1) := by decide +kernel
theorem dX11_takenBy_53 : decode cX11_takenBy 53 = .ok (.iaload, 1) := by decide +kernel
theorem dX11_takenBy_54 : decode cX11_takenBy 54 = .ok (.iload 5, 2) := by decide +kernel
theorem dX11_takenBy_56 : decode cX11_takenBy 56 = .ok (.iconst 0, 1) := by decide +kernel
theorem dX11_takenBy_57 : decode cX11_takenBy 57 = .ok (.invokevirtual 538, 3) := by decide +kernel
theorem dX11_takenBy_60 : decode cX11_takenBy 60 = .ok (.invokevirtual 511, 3) := by decide +kernel
theorem dX11_takenBy_63 : decode cX11_takenBy 63 = .ok (.istore 6, 2) := by decide +kernel
theorem dX11_takenBy_65 : decode cX11_takenBy 65 = .ok (.iload_n 3, 1) := by decide +kernel
theorem dX11_takenBy_66 : decode cX11_takenBy 66 = .ok (.ifCond .lt 13, 3) := by decide +kernel
theorem dX11_takenBy_69 : decode cX11_takenBy 69 = .ok (.iload 6, 2) := by decide +kernel
theorem dX11_takenBy_71 : decode cX11_takenBy 71 = .ok (.iload 4, 2) := by decide +kernel
theorem dX11_takenBy_73 : decode cX11_takenBy 73 = .ok (.if_icmp .gt 6, 3) := by decide +kernel
theorem dX11_takenBy_76 : decode cX11_takenBy 76 = .ok (.goto 10, 3) := by decide +kernel
theorem dX11_takenBy_79 : decode cX11_takenBy 79 = .ok (.iload 5, 2) := by decide +kernel
theorem dX11_takenBy_81 : decode cX11_takenBy 81 = .ok (.istore_n 3, 1) := by decide +kernel
theorem dX11_takenBy_82 : decode cX11_takenBy 82 = .ok (.iload 6, 2) := by decide +kernel
theorem dX11_takenBy_84 : decode cX11_takenBy 84 = .ok (.istore 4, 2) := by decide +kernel
theorem dX11_takenBy_86 : decode cX11_takenBy 86 = .ok (.iinc 5 1, 3) := by decide +kernel
theorem dX11_takenBy_89 : decode cX11_takenBy 89 = .ok (.goto (-81), 3) := by decide +kernel
theorem dX11_takenBy_92 : decode cX11_takenBy 92 = .ok (.iload_n 3, 1) := by decide +kernel
theorem dX11_takenBy_93 : decode cX11_takenBy 93 = .ok (.ireturn, 1) := by decide +kernel
theorem dX11_fits_0 : decode cX11_fits 0 = .ok (.aload_n 0, 1) := by decide +kernel
theorem dX11_fits_1 : decode cX11_fits 1 = .ok (.invokevirtual 476, 3) := by decide +kernel
theorem dX11_fits_4 : decode cX11_fits 4 = .ok (.iconst 0, 1) := by decide +kernel
theorem dX11_fits_5 : decode cX11_fits 5 = .ok (.istore_n 2, 1) := by decide +kernel
theorem dX11_fits_6 : decode cX11_fits 6 = .ok (.iconst 0, 1) := by decide +kernel
theorem dX11_fits_7 : decode cX11_fits 7 = .ok (.istore_n 3, 1) := by decide +kernel
theorem dX11_fits_8 : decode cX11_fits 8 = .ok (.iload_n 3, 1) := by decide +kernel
theorem dX11_fits_9 : decode cX11_fits 9 = .ok (.aload_n 0, 1) := by decide +kernel
theorem dX11_fits_10 : decode cX11_fits 10 = .ok (.getfield 464, 3) := by decide +kernel
theorem dX11_fits_13 : decode cX11_fits 13 = .ok (.if_icmp .ge 84, 3) := by decide +kernel
theorem dX11_fits_16 : decode cX11_fits 16 = .ok (.iconst 1, 1) := by decide +kernel
theorem dX11_fits_17 : decode cX11_fits 17 = .ok (.istore 4, 2) := by decide +kernel
theorem dX11_fits_19 : decode cX11_fits 19 = .ok (.iconst 0, 1) := by decide +kernel
theorem dX11_fits_20 : decode cX11_fits 20 = .ok (.istore 5, 2) := by decide +kernel
theorem dX11_fits_22 : decode cX11_fits 22 = .ok (.iload 5, 2) := by decide +kernel
theorem dX11_fits_24 : decode cX11_fits 24 = .ok (.aload_n 0, 1) := by decide +kernel
theorem dX11_fits_25 : decode cX11_fits 25 = .ok (.getfield 488, 3) := by decide +kernel
theorem dX11_fits_28 : decode cX11_fits 28 = .ok (.if_icmp .ge 48, 3) := by decide +kernel
theorem dX11_fits_31 : decode cX11_fits 31 = .ok (.iload 4, 2) := by decide +kernel
theorem dX11_fits_33 : decode cX11_fits 33 = .ok (.ifCond .eq 34, 3) := by decide +kernel
theorem dX11_fits_36 : decode cX11_fits 36 = .ok (.aload_n 0, 1) := by decide +kernel
theorem dX11_fits_37 : decode cX11_fits 37 = .ok (.iload 5, 2) := by decide +kernel
theorem dX11_fits_39 : decode cX11_fits 39 = .ok (.iload_n 1, 1) := by decide +kernel
theorem dX11_fits_40 : decode cX11_fits 40 = .ok (.invokevirtual 654, 3) := by decide +kernel
theorem dX11_fits_43 : decode cX11_fits 43 = .ok (.ifCond .eq 20, 3) := by decide +kernel
theorem dX11_fits_46 : decode cX11_fits 46 = .ok (.aload_n 0, 1) := by decide +kernel
theorem dX11_fits_47 : decode cX11_fits 47 = .ok (.iload_n 3, 1) := by decide +kernel
theorem dX11_fits_48 : decode cX11_fits 48 = .ok (.iload 5, 2) := by decide +kernel
theorem dX11_fits_50 : decode cX11_fits 50 = .ok (.invokevirtual 657, 3) := by decide +kernel
theorem dX11_fits_53 : decode cX11_fits 53 = .ok (.aload_n 0, 1) := by decide +kernel
theorem dX11_fits_54 : decode cX11_fits 54 = .ok (.getfield 169, 3) := by decide +kernel
theorem dX11_fits_57 : decode cX11_fits 57 = .ok (.iload 5, 2) := by decide +kernel
theorem dX11_fits_59 : decode cX11_fits 59 = .ok (.iaload, 1) := by decide +kernel
theorem dX11_fits_60 : decode cX11_fits 60 = .ok (.if_icmp .ne 7, 3) := by decide +kernel
theorem dX11_fits_63 : decode cX11_fits 63 = .ok (.iconst 1, 1) := by decide +kernel
theorem dX11_fits_64 : decode cX11_fits 64 = .ok (.goto 4, 3) := by decide +kernel
theorem dX11_fits_67 : decode cX11_fits 67 = .ok (.iconst 0, 1) := by decide +kernel
theorem dX11_fits_68 : decode cX11_fits 68 = .ok (.istore 4, 2) := by decide +kernel
theorem dX11_fits_70 : decode cX11_fits 70 = .ok (.iinc 5 1, 3) := by decide +kernel
theorem dX11_fits_73 : decode cX11_fits 73 = .ok (.goto (-51), 3) := by decide +kernel
theorem dX11_fits_76 : decode cX11_fits 76 = .ok (.iload_n 2, 1) := by decide +kernel
theorem dX11_fits_77 : decode cX11_fits 77 = .ok (.iload 4, 2) := by decide +kernel
theorem dX11_fits_79 : decode cX11_fits 79 = .ok (.ifCond .eq 9, 3) := by decide +kernel
theorem dX11_fits_82 : decode cX11_fits 82 = .ok (.iconst 1, 1) := by decide +kernel
theorem dX11_fits_83 : decode cX11_fits 83 = .ok (.iload_n 3, 1) := by decide +kernel
theorem dX11_fits_84 : decode cX11_fits 84 = .ok (.ishl, 1) := by decide +kernel
theorem dX11_fits_85 : decode cX11_fits 85 = .ok (.goto 4, 3) := by decide +kernel
theorem dX11_fits_88 : decode cX11_fits 88 = .ok (.iconst 0, 1) := by decide +kernel
theorem dX11_fits_89 : decode cX11_fits 89 = .ok (.ior, 1) := by decide +kernel
theorem dX11_fits_90 : decode cX11_fits 90 = .ok (.istore_n 2, 1) := by decide +kernel
theorem dX11_fits_91 : decode cX11_fits 91 = .ok (.iinc 3 1, 3) := by decide +kernel
theorem dX11_fits_94 : decode cX11_fits 94 = .ok (.goto (-86), 3) := by decide +kernel
theorem dX11_fits_97 : decode cX11_fits 97 = .ok (.iload_n 2, 1) := by decide +kernel
theorem dX11_fits_98 : decode cX11_fits 98 = .ok (.ireturn, 1) := by decide +kernel
theorem dX11_falseBy_0 : decode cX11_falseBy 0 = .ok (.iconst 0, 1) := by decide +kernel
theorem dX11_falseBy_1 : decode cX11_falseBy 1 = .ok (.istore_n 3, 1) := by decide +kernel
theorem dX11_falseBy_2 : decode cX11_falseBy 2 = .ok (.iconst 0, 1) := by decide +kernel
theorem dX11_falseBy_3 : decode cX11_falseBy 3 = .ok (.istore 4, 2) := by decide +kernel
theorem dX11_falseBy_5 : decode cX11_falseBy 5 = .ok (.iload 4, 2) := by decide +kernel
theorem dX11_falseBy_7 : decode cX11_falseBy 7 = .ok (.aload_n 0, 1) := by decide +kernel
theorem dX11_falseBy_8 : decode cX11_falseBy 8 = .ok (.getfield 488, 3) := by decide +kernel
theorem dX11_falseBy_11 : decode cX11_falseBy 11 = .ok (.if_icmp .ge 44, 3) := by decide +kernel
theorem dX11_falseBy_14 : decode cX11_falseBy 14 = .ok (.iload_n 3, 1) := by decide +kernel
theorem dX11_falseBy_15 : decode cX11_falseBy 15 = .ok (.aload_n 0, 1) := by decide +kernel
theorem dX11_falseBy_16 : decode cX11_falseBy 16 = .ok (.iload 4, 2) := by decide +kernel
theorem dX11_falseBy_18 : decode cX11_falseBy 18 = .ok (.iload_n 2, 1) := by decide +kernel
theorem dX11_falseBy_19 : decode cX11_falseBy 19 = .ok (.invokevirtual 654, 3) := by decide +kernel
theorem dX11_falseBy_22 : decode cX11_falseBy 22 = .ok (.ifCond .eq 24, 3) := by decide +kernel
theorem dX11_falseBy_25 : decode cX11_falseBy 25 = .ok (.aload_n 0, 1) := by decide +kernel
theorem dX11_falseBy_26 : decode cX11_falseBy 26 = .ok (.iload_n 1, 1) := by decide +kernel
theorem dX11_falseBy_27 : decode cX11_falseBy 27 = .ok (.iload 4, 2) := by decide +kernel
theorem dX11_falseBy_29 : decode cX11_falseBy 29 = .ok (.invokevirtual 657, 3) := by decide +kernel
theorem dX11_falseBy_32 : decode cX11_falseBy 32 = .ok (.aload_n 0, 1) := by decide +kernel
theorem dX11_falseBy_33 : decode cX11_falseBy 33 = .ok (.getfield 169, 3) := by decide +kernel
theorem dX11_falseBy_36 : decode cX11_falseBy 36 = .ok (.iload 4, 2) := by decide +kernel
theorem dX11_falseBy_38 : decode cX11_falseBy 38 = .ok (.iaload, 1) := by decide +kernel
theorem dX11_falseBy_39 : decode cX11_falseBy 39 = .ok (.if_icmp .eq 7, 3) := by decide +kernel
theorem dX11_falseBy_42 : decode cX11_falseBy 42 = .ok (.iconst 1, 1) := by decide +kernel
theorem dX11_falseBy_43 : decode cX11_falseBy 43 = .ok (.goto 4, 3) := by decide +kernel
theorem dX11_falseBy_46 : decode cX11_falseBy 46 = .ok (.iconst 0, 1) := by decide +kernel
theorem dX11_falseBy_47 : decode cX11_falseBy 47 = .ok (.iadd, 1) := by decide +kernel
theorem dX11_falseBy_48 : decode cX11_falseBy 48 = .ok (.istore_n 3, 1) := by decide +kernel
theorem dX11_falseBy_49 : decode cX11_falseBy 49 = .ok (.iinc 4 1, 3) := by decide +kernel
theorem dX11_falseBy_52 : decode cX11_falseBy 52 = .ok (.goto (-47), 3) := by decide +kernel
theorem dX11_falseBy_55 : decode cX11_falseBy 55 = .ok (.iload_n 3, 1) := by decide +kernel
theorem dX11_falseBy_56 : decode cX11_falseBy 56 = .ok (.ireturn, 1) := by decide +kernel
theorem dX11_nearest_0 : decode cX11_nearest 0 = .ok (.aload_n 0, 1) := by decide +kernel
theorem dX11_nearest_1 : decode cX11_nearest 1 = .ok (.getfield 464, 3) := by decide +kernel
theorem dX11_nearest_4 : decode cX11_nearest 4 = .ok (.ifCond .eq 12, 3) := by decide +kernel
theorem dX11_nearest_7 : decode cX11_nearest 7 = .ok (.iload_n 1, 1) := by decide +kernel
theorem dX11_nearest_8 : decode cX11_nearest 8 = .ok (.iconst 0, 1) := by decide +kernel
theorem dX11_nearest_9 : decode cX11_nearest 9 = .ok (.iconst 1, 1) := by decide +kernel
theorem dX11_nearest_10 : decode cX11_nearest 10 = .ok (.invokestatic 494, 3) := by decide +kernel
theorem dX11_nearest_13 : decode cX11_nearest 13 = .ok (.ifCond .ne 5, 3) := by decide +kernel
theorem dX11_nearest_16 : decode cX11_nearest 16 = .ok (.iconst (-1), 1) := by decide +kernel
theorem dX11_nearest_17 : decode cX11_nearest 17 = .ok (.ireturn, 1) := by decide +kernel
theorem dX11_nearest_18 : decode cX11_nearest 18 = .ok (.aload_n 0, 1) := by decide +kernel
theorem dX11_nearest_19 : decode cX11_nearest 19 = .ok (.invokevirtual 476, 3) := by decide +kernel
theorem dX11_nearest_22 : decode cX11_nearest 22 = .ok (.iconst 0, 1) := by decide +kernel
theorem dX11_nearest_23 : decode cX11_nearest 23 = .ok (.istore_n 3, 1) := by decide +kernel
theorem dX11_nearest_24 : decode cX11_nearest 24 = .ok (.iconst 1, 1) := by decide +kernel
theorem dX11_nearest_25 : decode cX11_nearest 25 = .ok (.istore 4, 2) := by decide +kernel
theorem dX11_nearest_27 : decode cX11_nearest 27 = .ok (.iload 4, 2) := by decide +kernel
theorem dX11_nearest_29 : decode cX11_nearest 29 = .ok (.aload_n 0, 1) := by decide +kernel
theorem dX11_nearest_30 : decode cX11_nearest 30 = .ok (.getfield 464, 3) := by decide +kernel
theorem dX11_nearest_33 : decode cX11_nearest 33 = .ok (.if_icmp .ge 32, 3) := by decide +kernel
theorem dX11_nearest_36 : decode cX11_nearest 36 = .ok (.aload_n 0, 1) := by decide +kernel
theorem dX11_nearest_37 : decode cX11_nearest 37 = .ok (.iload 4, 2) := by decide +kernel
theorem dX11_nearest_39 : decode cX11_nearest 39 = .ok (.iload_n 2, 1) := by decide +kernel
theorem dX11_nearest_40 : decode cX11_nearest 40 = .ok (.invokevirtual 660, 3) := by decide +kernel
theorem dX11_nearest_43 : decode cX11_nearest 43 = .ok (.aload_n 0, 1) := by decide +kernel
theorem dX11_nearest_44 : decode cX11_nearest 44 = .ok (.iload_n 3, 1) := by decide +kernel
theorem dX11_nearest_45 : decode cX11_nearest 45 = .ok (.iload_n 2, 1) := by decide +kernel
theorem dX11_nearest_46 : decode cX11_nearest 46 = .ok (.invokevirtual 660, 3) := by decide +kernel
theorem dX11_nearest_49 : decode cX11_nearest 49 = .ok (.if_icmp .ge 8, 3) := by decide +kernel
theorem dX11_nearest_52 : decode cX11_nearest 52 = .ok (.iload 4, 2) := by decide +kernel
theorem dX11_nearest_54 : decode cX11_nearest 54 = .ok (.goto 4, 3) := by decide +kernel
theorem dX11_nearest_57 : decode cX11_nearest 57 = .ok (.iload_n 3, 1) := by decide +kernel
theorem dX11_nearest_58 : decode cX11_nearest 58 = .ok (.istore_n 3, 1) := by decide +kernel
theorem dX11_nearest_59 : decode cX11_nearest 59 = .ok (.iinc 4 1, 3) := by decide +kernel
theorem dX11_nearest_62 : decode cX11_nearest 62 = .ok (.goto (-35), 3) := by decide +kernel
theorem dX11_nearest_65 : decode cX11_nearest 65 = .ok (.iload_n 1, 1) := by decide +kernel
theorem dX11_nearest_66 : decode cX11_nearest 66 = .ok (.ifCond .ne 7, 3) := by decide +kernel
theorem dX11_nearest_69 : decode cX11_nearest 69 = .ok (.iload_n 3, 1) := by decide +kernel
theorem dX11_nearest_70 : decode cX11_nearest 70 = .ok (.goto 9, 3) := by decide +kernel
theorem dX11_nearest_73 : decode cX11_nearest 73 = .ok (.aload_n 0, 1) := by decide +kernel
theorem dX11_nearest_74 : decode cX11_nearest 74 = .ok (.iload_n 3, 1) := by decide +kernel
theorem dX11_nearest_75 : decode cX11_nearest 75 = .ok (.iload_n 2, 1) := by decide +kernel
theorem dX11_nearest_76 : decode cX11_nearest 76 = .ok (.invokevirtual 660, 3) := by decide +kernel
theorem dX11_nearest_79 : decode cX11_nearest 79 = .ok (.ireturn, 1) := by decide +kernel
theorem dX11_chance_0 : decode cX11_chance 0 = .ok (.lconst 1, 1) := by decide +kernel
theorem dX11_chance_1 : decode cX11_chance 1 = .ok (.lstore_n 2, 1) := by decide +kernel
theorem dX11_chance_2 : decode cX11_chance 2 = .ok (.iconst 0, 1) := by decide +kernel
theorem dX11_chance_3 : decode cX11_chance 3 = .ok (.istore 4, 2) := by decide +kernel
theorem dX11_chance_5 : decode cX11_chance 5 = .ok (.iload 4, 2) := by decide +kernel
theorem dX11_chance_7 : decode cX11_chance 7 = .ok (.aload_n 0, 1) := by decide +kernel
theorem dX11_chance_8 : decode cX11_chance 8 = .ok (.getfield 488, 3) := by decide +kernel
theorem dX11_chance_11 : decode cX11_chance 11 = .ok (.if_icmp .ge 58, 3) := by decide +kernel
theorem dX11_chance_14 : decode cX11_chance 14 = .ok (.aload_n 0, 1) := by decide +kernel
theorem dX11_chance_15 : decode cX11_chance 15 = .ok (.iload 4, 2) := by decide +kernel
theorem dX11_chance_17 : decode cX11_chance 17 = .ok (.iload_n 1, 1) := by decide +kernel
theorem dX11_chance_18 : decode cX11_chance 18 = .ok (.invokevirtual 654, 3) := by decide +kernel
theorem dX11_chance_21 : decode cX11_chance 21 = .ok (.ifCond .ne 6, 3) := by decide +kernel
theorem dX11_chance_24 : decode cX11_chance 24 = .ok (.goto 39, 3) := by decide +kernel
theorem dX11_chance_27 : decode cX11_chance 27 = .ok (.aload_n 0, 1) := by decide +kernel
theorem dX11_chance_28 : decode cX11_chance 28 = .ok (.getfield 166, 3) := by decide +kernel
theorem dX11_chance_31 : decode cX11_chance 31 = .ok (.iload 4, 2) := by decide +kernel
theorem dX11_chance_33 : decode cX11_chance 33 = .ok (.iaload, 1) := by decide +kernel
theorem dX11_chance_34 : decode cX11_chance 34 = .ok (.invokestatic 628, 3) := by decide +kernel
theorem dX11_chance_37 : decode cX11_chance 37 = .ok (.istore 5, 2) := by decide +kernel
theorem dX11_chance_39 : decode cX11_chance 39 = .ok (.lload_n 2, 1) := by decide +kernel
theorem dX11_chance_40 : decode cX11_chance 40 = .ok (.iload 5, 2) := by decide +kernel
theorem dX11_chance_42 : decode cX11_chance 42 = .ok (.i2l, 1) := by decide +kernel
theorem dX11_chance_43 : decode cX11_chance 43 = .ok (.lmul, 1) := by decide +kernel
theorem dX11_chance_44 : decode cX11_chance 44 = .ok (.ldc2_w 663, 3) := by decide +kernel
theorem dX11_chance_47 : decode cX11_chance 47 = .ok (.lcmp, 1) := by decide +kernel
theorem dX11_chance_48 : decode cX11_chance 48 = .ok (.ifCond .le 9, 3) := by decide +kernel
theorem dX11_chance_51 : decode cX11_chance 51 = .ok (.ldc2_w 663, 3) := by decide +kernel
theorem dX11_chance_54 : decode cX11_chance 54 = .ok (.goto 8, 3) := by decide +kernel
theorem dX11_chance_57 : decode cX11_chance 57 = .ok (.lload_n 2, 1) := by decide +kernel
theorem dX11_chance_58 : decode cX11_chance 58 = .ok (.iload 5, 2) := by decide +kernel
theorem dX11_chance_60 : decode cX11_chance 60 = .ok (.i2l, 1) := by decide +kernel
theorem dX11_chance_61 : decode cX11_chance 61 = .ok (.lmul, 1) := by decide +kernel
theorem dX11_chance_62 : decode cX11_chance 62 = .ok (.lstore_n 2, 1) := by decide +kernel
theorem dX11_chance_63 : decode cX11_chance 63 = .ok (.iinc 4 1, 3) := by decide +kernel
theorem dX11_chance_66 : decode cX11_chance 66 = .ok (.goto (-61), 3) := by decide +kernel
theorem dX11_chance_69 : decode cX11_chance 69 = .ok (.lload_n 2, 1) := by decide +kernel
theorem dX11_chance_70 : decode cX11_chance 70 = .ok (.lreturn, 1) := by decide +kernel
theorem dX11_isBox_0 : decode cX11_isBox 0 = .ok (.iload_n 0, 1) := by decide +kernel
theorem dX11_isBox_1 : decode cX11_isBox 1 = .ok (.ifCond .lt 12, 3) := by decide +kernel
theorem dX11_isBox_4 : decode cX11_isBox 4 = .ok (.iload_n 0, 1) := by decide +kernel
theorem dX11_isBox_5 : decode cX11_isBox 5 = .ok (.iconst 3, 1) := by decide +kernel
theorem dX11_isBox_6 : decode cX11_isBox 6 = .ok (.if_icmp .ge 7, 3) := by decide +kernel
theorem dX11_isBox_9 : decode cX11_isBox 9 = .ok (.iconst 1, 1) := by decide +kernel
theorem dX11_isBox_10 : decode cX11_isBox 10 = .ok (.goto 4, 3) := by decide +kernel
theorem dX11_isBox_13 : decode cX11_isBox 13 = .ok (.iconst 0, 1) := by decide +kernel
theorem dX11_isBox_14 : decode cX11_isBox 14 = .ok (.ireturn, 1) := by decide +kernel
theorem dX11_image_0 : decode cX11_image 0 = .ok (.iload_n 1, 1) := by decide +kernel
theorem dX11_image_1 : decode cX11_image 1 = .ok (.invokestatic 665, 3) := by decide +kernel
theorem dX11_image_4 : decode cX11_image 4 = .ok (.ifCond .ne 5, 3) := by decide +kernel
theorem dX11_image_7 : decode cX11_image 7 = .ok (.iconst (-1), 1) := by decide +kernel
theorem dX11_image_8 : decode cX11_image 8 = .ok (.ireturn, 1) := by decide +kernel
theorem dX11_image_9 : decode cX11_image 9 = .ok (.aload_n 0, 1) := by decide +kernel
theorem dX11_image_10 : decode cX11_image 10 = .ok (.getfield 178, 3) := by decide +kernel
theorem dX11_image_13 : decode cX11_image 13 = .ok (.iload_n 1, 1) := by decide +kernel
theorem dX11_image_14 : decode cX11_image 14 = .ok (.iconst 1, 1) := by decide +kernel
theorem dX11_image_15 : decode cX11_image 15 = .ok (.bastore, 1) := by decide +kernel
theorem dX11_image_16 : decode cX11_image 16 = .ok (.aload_n 0, 1) := by decide +kernel
theorem dX11_image_17 : decode cX11_image 17 = .ok (.invokevirtual 566, 3) := by decide +kernel
theorem dX11_image_20 : decode cX11_image 20 = .ok (.iconst 0, 1) := by decide +kernel
theorem dX11_image_21 : decode cX11_image 21 = .ok (.istore_n 2, 1) := by decide +kernel
theorem dX11_image_22 : decode cX11_image 22 = .ok (.iload_n 2, 1) := by decide +kernel
theorem dX11_image_23 : decode cX11_image 23 = .ok (.bipush 123, 2) := by decide +kernel
theorem dX11_image_25 : decode cX11_image 25 = .ok (.if_icmp .ge 27, 3) := by decide +kernel
theorem dX11_image_28 : decode cX11_image 28 = .ok (.aload_n 0, 1) := by decide +kernel
theorem dX11_image_29 : decode cX11_image 29 = .ok (.getfield 181, 3) := by decide +kernel
theorem dX11_image_32 : decode cX11_image 32 = .ok (.sipush 128, 3) := by decide +kernel
theorem dX11_image_35 : decode cX11_image 35 = .ok (.iload_n 1, 1) := by decide +kernel
theorem dX11_image_36 : decode cX11_image 36 = .ok (.imul, 1) := by decide +kernel
theorem dX11_image_37 : decode cX11_image 37 = .ok (.iload_n 2, 1) := by decide +kernel
theorem dX11_image_38 : decode cX11_image 38 = .ok (.iadd, 1) := by decide +kernel
theorem dX11_image_39 : decode cX11_image 39 = .ok (.aload_n 0, 1) := by decide +kernel
theorem dX11_image_40 : decode cX11_image 40 = .ok (.getfield 121, 3) := by decide +kernel
theorem dX11_image_43 : decode cX11_image 43 = .ok (.iload_n 2, 1) := by decide +kernel
theorem dX11_image_44 : decode cX11_image 44 = .ok (.iaload, 1) := by decide +kernel
theorem dX11_image_45 : decode cX11_image 45 = .ok (.iastore, 1) := by decide +kernel
theorem dX11_image_46 : decode cX11_image 46 = .ok (.iinc 2 1, 3) := by decide +kernel
theorem dX11_image_49 : decode cX11_image 49 = .ok (.goto (-27), 3) := by decide +kernel
theorem dX11_image_52 : decode cX11_image 52 = .ok (.aload_n 0, 1) := by decide +kernel
theorem dX11_image_53 : decode cX11_image 53 = .ok (.invokevirtual 619, 3) := by decide +kernel
theorem dX11_image_56 : decode cX11_image 56 = .ok (.ireturn, 1) := by decide +kernel
theorem dX11_back_0 : decode cX11_back 0 = .ok (.iload_n 1, 1) := by decide +kernel
theorem dX11_back_1 : decode cX11_back 1 = .ok (.invokestatic 665, 3) := by decide +kernel
theorem dX11_back_4 : decode cX11_back 4 = .ok (.ifCond .eq 12, 3) := by decide +kernel
theorem dX11_back_7 : decode cX11_back 7 = .ok (.aload_n 0, 1) := by decide +kernel
theorem dX11_back_8 : decode cX11_back 8 = .ok (.getfield 178, 3) := by decide +kernel
theorem dX11_back_11 : decode cX11_back 11 = .ok (.iload_n 1, 1) := by decide +kernel
theorem dX11_back_12 : decode cX11_back 12 = .ok (.baload, 1) := by decide +kernel
theorem dX11_back_13 : decode cX11_back 13 = .ok (.ifCond .ne 5, 3) := by decide +kernel
theorem dX11_back_16 : decode cX11_back 16 = .ok (.iconst (-1), 1) := by decide +kernel
theorem dX11_back_17 : decode cX11_back 17 = .ok (.ireturn, 1) := by decide +kernel
theorem dX11_back_18 : decode cX11_back 18 = .ok (.iconst 0, 1) := by decide +kernel
theorem dX11_back_19 : decode cX11_back 19 = .ok (.istore_n 2, 1) := by decide +kernel
theorem dX11_back_20 : decode cX11_back 20 = .ok (.iload_n 2, 1) := by decide +kernel
theorem dX11_back_21 : decode cX11_back 21 = .ok (.bipush 123, 2) := by decide +kernel
theorem dX11_back_23 : decode cX11_back 23 = .ok (.if_icmp .ge 27, 3) := by decide +kernel
theorem dX11_back_26 : decode cX11_back 26 = .ok (.aload_n 0, 1) := by decide +kernel
theorem dX11_back_27 : decode cX11_back 27 = .ok (.getfield 124, 3) := by decide +kernel
theorem dX11_back_30 : decode cX11_back 30 = .ok (.iload_n 2, 1) := by decide +kernel
theorem dX11_back_31 : decode cX11_back 31 = .ok (.aload_n 0, 1) := by decide +kernel
theorem dX11_back_32 : decode cX11_back 32 = .ok (.getfield 181, 3) := by decide +kernel
theorem dX11_back_35 : decode cX11_back 35 = .ok (.sipush 128, 3) := by decide +kernel
theorem dX11_back_38 : decode cX11_back 38 = .ok (.iload_n 1, 1) := by decide +kernel
theorem dX11_back_39 : decode cX11_back 39 = .ok (.imul, 1) := by decide +kernel
theorem dX11_back_40 : decode cX11_back 40 = .ok (.iload_n 2, 1) := by decide +kernel
theorem dX11_back_41 : decode cX11_back 41 = .ok (.iadd, 1) := by decide +kernel
theorem dX11_back_42 : decode cX11_back 42 = .ok (.iaload, 1) := by decide +kernel
theorem dX11_back_43 : decode cX11_back 43 = .ok (.iastore, 1) := by decide +kernel
theorem dX11_back_44 : decode cX11_back 44 = .ok (.iinc 2 1, 3) := by decide +kernel
theorem dX11_back_47 : decode cX11_back 47 = .ok (.goto (-27), 3) := by decide +kernel
theorem dX11_back_50 : decode cX11_back 50 = .ok (.aload_n 0, 1) := by decide +kernel
theorem dX11_back_51 : decode cX11_back 51 = .ok (.iconst 0, 1) := by decide +kernel
theorem dX11_back_52 : decode cX11_back 52 = .ok (.putfield 482, 3) := by decide +kernel
theorem dX11_back_55 : decode cX11_back 55 = .ok (.aload_n 0, 1) := by decide +kernel
theorem dX11_back_56 : decode cX11_back 56 = .ok (.iconst 0, 1) := by decide +kernel
theorem dX11_back_57 : decode cX11_back 57 = .ok (.putfield 485, 3) := by decide +kernel
theorem dX11_back_60 : decode cX11_back 60 = .ok (.aload_n 0, 1) := by decide +kernel
theorem dX11_back_61 : decode cX11_back 61 = .ok (.invokevirtual 566, 3) := by decide +kernel
theorem dX11_back_64 : decode cX11_back 64 = .ok (.aload_n 0, 1) := by decide +kernel
theorem dX11_back_65 : decode cX11_back 65 = .ok (.invokevirtual 619, 3) := by decide +kernel
theorem dX11_back_68 : decode cX11_back 68 = .ok (.ireturn, 1) := by decide +kernel
theorem dX11_about_0 : decode cX11_about 0 = .ok (.aload_n 0, 1) := by decide +kernel
theorem dX11_about_1 : decode cX11_about 1 = .ok (.invokevirtual 566, 3) := by decide +kernel
theorem dX11_about_4 : decode cX11_about 4 = .ok (.iload_n 1, 1) := by decide +kernel
theorem dX11_about_5 : decode cX11_about 5 = .ok (.tableswitch 144 0 13 #[71, 76, 81, 86, 91, 96, 101, 109, 114, 119, 124, 129, 134, 139], 71) := by decide +kernel
theorem dX11_about_76 : decode cX11_about 76 = .ok (.aload_n 0, 1) := by decide +kernel
theorem dX11_about_77 : decode cX11_about 77 = .ok (.getfield 455, 3) := by decide +kernel
theorem dX11_about_80 : decode cX11_about 80 = .ok (.ireturn, 1) := by decide +kernel
theorem dX11_about_81 : decode cX11_about 81 = .ok (.aload_n 0, 1) := by decide +kernel
theorem dX11_about_82 : decode cX11_about 82 = .ok (.getfield 458, 3) := by decide +kernel
theorem dX11_about_85 : decode cX11_about 85 = .ok (.ireturn, 1) := by decide +kernel
theorem dX11_about_86 : decode cX11_about 86 = .ok (.aload_n 0, 1) := by decide +kernel
theorem dX11_about_87 : decode cX11_about 87 = .ok (.getfield 467, 3) := by decide +kernel
theorem dX11_about_90 : decode cX11_about 90 = .ok (.ireturn, 1) := by decide +kernel
theorem dX11_about_91 : decode cX11_about 91 = .ok (.aload_n 0, 1) := by decide +kernel
theorem dX11_about_92 : decode cX11_about 92 = .ok (.invokevirtual 619, 3) := by decide +kernel
theorem dX11_about_95 : decode cX11_about 95 = .ok (.ireturn, 1) := by decide +kernel
theorem dX11_about_96 : decode cX11_about 96 = .ok (.aload_n 0, 1) := by decide +kernel
theorem dX11_about_97 : decode cX11_about 97 = .ok (.getfield 470, 3) := by decide +kernel
theorem dX11_about_100 : decode cX11_about 100 = .ok (.ireturn, 1) := by decide +kernel
theorem dX11_about_101 : decode cX11_about 101 = .ok (.aload_n 0, 1) := by decide +kernel
theorem dX11_about_102 : decode cX11_about 102 = .ok (.getfield 464, 3) := by decide +kernel
theorem dX11_about_105 : decode cX11_about 105 = .ok (.ireturn, 1) := by decide +kernel
theorem dX11_about_106 : decode cX11_about 106 = .ok (.aload_n 0, 1) := by decide +kernel
theorem dX11_about_107 : decode cX11_about 107 = .ok (.getfield 124, 3) := by decide +kernel
theorem dX11_about_110 : decode cX11_about 110 = .ok (.bipush 62, 2) := by decide +kernel
theorem dX11_about_112 : decode cX11_about 112 = .ok (.iaload, 1) := by decide +kernel
theorem dX11_about_113 : decode cX11_about 113 = .ok (.ireturn, 1) := by decide +kernel
theorem dX11_about_114 : decode cX11_about 114 = .ok (.aload_n 0, 1) := by decide +kernel
theorem dX11_about_115 : decode cX11_about 115 = .ok (.getfield 482, 3) := by decide +kernel
theorem dX11_about_118 : decode cX11_about 118 = .ok (.ireturn, 1) := by decide +kernel
theorem dX11_about_119 : decode cX11_about 119 = .ok (.aload_n 0, 1) := by decide +kernel
theorem dX11_about_120 : decode cX11_about 120 = .ok (.getfield 485, 3) := by decide +kernel
theorem dX11_about_123 : decode cX11_about 123 = .ok (.ireturn, 1) := by decide +kernel
theorem dX11_about_124 : decode cX11_about 124 = .ok (.aload_n 0, 1) := by decide +kernel
theorem dX11_about_125 : decode cX11_about 125 = .ok (.getfield 488, 3) := by decide +kernel
theorem dX11_about_128 : decode cX11_about 128 = .ok (.ireturn, 1) := by decide +kernel
theorem dX11_about_129 : decode cX11_about 129 = .ok (.aload_n 0, 1) := by decide +kernel
theorem dX11_about_130 : decode cX11_about 130 = .ok (.getfield 650, 3) := by decide +kernel
theorem dX11_about_133 : decode cX11_about 133 = .ok (.ireturn, 1) := by decide +kernel
theorem dX11_about_134 : decode cX11_about 134 = .ok (.aload_n 0, 1) := by decide +kernel
theorem dX11_about_135 : decode cX11_about 135 = .ok (.getfield 184, 3) := by decide +kernel
theorem dX11_about_138 : decode cX11_about 138 = .ok (.ireturn, 1) := by decide +kernel
theorem dX11_about_139 : decode cX11_about 139 = .ok (.aload_n 0, 1) := by decide +kernel
theorem dX11_about_140 : decode cX11_about 140 = .ok (.getfield 473, 3) := by decide +kernel
theorem dX11_about_143 : decode cX11_about 143 = .ok (.ireturn, 1) := by decide +kernel
theorem dX11_about_144 : decode cX11_about 144 = .ok (.aload_n 0, 1) := by decide +kernel
theorem dX11_about_145 : decode cX11_about 145 = .ok (.getfield 491, 3) := by decide +kernel
theorem dX11_about_148 : decode cX11_about 148 = .ok (.ireturn, 1) := by decide +kernel
theorem dX11_about_149 : decode cX11_about 149 = .ok (.iconst (-1), 1) := by decide +kernel
theorem dX11_about_150 : decode cX11_about 150 = .ok (.ireturn, 1) := by decide +kernel
