theorem dX0_init_0 : decode cX0_init 0 = .ok (.aload_n 0, 1) := by decide +kernel
theorem dX0_init_1 : decode cX0_init 1 = .ok (.invokespecial 3, 3) := by decide +kernel
theorem dX0_init_4 : decode cX0_init 4 = .ok (.aload_n 0, 1) := by decide +kernel
theorem dX0_init_5 : decode cX0_init 5 = .ok (.bipush 30, 2) := by decide +kernel
theorem dX0_init_7 : decode cX0_init 7 = .ok (.newarray .int, 2) := by decide +kernel
theorem dX0_init_9 : decode cX0_init 9 = .ok (.putfield 9, 3) := by decide +kernel
theorem dX0_init_12 : decode cX0_init 12 = .ok (.aload_n 0, 1) := by decide +kernel
theorem dX0_init_13 : decode cX0_init 13 = .ok (.bipush 30, 2) := by decide +kernel
theorem dX0_init_15 : decode cX0_init 15 = .ok (.newarray .int, 2) := by decide +kernel
theorem dX0_init_17 : decode cX0_init 17 = .ok (.putfield 15, 3) := by decide +kernel
theorem dX0_init_20 : decode cX0_init 20 = .ok (.aload_n 0, 1) := by decide +kernel
theorem dX0_init_21 : decode cX0_init 21 = .ok (.bipush 30, 2) := by decide +kernel
theorem dX0_init_23 : decode cX0_init 23 = .ok (.newarray .int, 2) := by decide +kernel
theorem dX0_init_25 : decode cX0_init 25 = .ok (.putfield 18, 3) := by decide +kernel
theorem dX0_init_28 : decode cX0_init 28 = .ok (.aload_n 0, 1) := by decide +kernel
theorem dX0_init_29 : decode cX0_init 29 = .ok (.bipush 30, 2) := by decide +kernel
theorem dX0_init_31 : decode cX0_init 31 = .ok (.newarray .int, 2) := by decide +kernel
theorem dX0_init_33 : decode cX0_init 33 = .ok (.putfield 21, 3) := by decide +kernel
theorem dX0_init_36 : decode cX0_init 36 = .ok (.return_, 1) := by decide +kernel
theorem dX0_keep_0 : decode cX0_keep 0 = .ok (.aload_n 0, 1) := by decide +kernel
theorem dX0_keep_1 : decode cX0_keep 1 = .ok (.getfield 24, 3) := by decide +kernel
theorem dX0_keep_4 : decode cX0_keep 4 = .ok (.aload_n 0, 1) := by decide +kernel
theorem dX0_keep_5 : decode cX0_keep 5 = .ok (.getfield 28, 3) := by decide +kernel
theorem dX0_keep_8 : decode cX0_keep 8 = .ok (.iadd, 1) := by decide +kernel
theorem dX0_keep_9 : decode cX0_keep 9 = .ok (.bipush 30, 2) := by decide +kernel
theorem dX0_keep_11 : decode cX0_keep 11 = .ok (.irem, 1) := by decide +kernel
theorem dX0_keep_12 : decode cX0_keep 12 = .ok (.istore 5, 2) := by decide +kernel
theorem dX0_keep_14 : decode cX0_keep 14 = .ok (.aload_n 0, 1) := by decide +kernel
theorem dX0_keep_15 : decode cX0_keep 15 = .ok (.getfield 9, 3) := by decide +kernel
theorem dX0_keep_18 : decode cX0_keep 18 = .ok (.iload 5, 2) := by decide +kernel
theorem dX0_keep_20 : decode cX0_keep 20 = .ok (.iload_n 1, 1) := by decide +kernel
theorem dX0_keep_21 : decode cX0_keep 21 = .ok (.iastore, 1) := by decide +kernel
theorem dX0_keep_22 : decode cX0_keep 22 = .ok (.aload_n 0, 1) := by decide +kernel
theorem dX0_keep_23 : decode cX0_keep 23 = .ok (.getfield 15, 3) := by decide +kernel
theorem dX0_keep_26 : decode cX0_keep 26 = .ok (.iload 5, 2) := by decide +kernel
theorem dX0_keep_28 : decode cX0_keep 28 = .ok (.iload_n 2, 1) := by decide +kernel
theorem dX0_keep_29 : decode cX0_keep 29 = .ok (.iastore, 1) := by decide +kernel
theorem dX0_keep_30 : decode cX0_keep 30 = .ok (.aload_n 0, 1) := by decide +kernel
theorem dX0_keep_31 : decode cX0_keep 31 = .ok (.getfield 18, 3) := by decide +kernel
theorem dX0_keep_34 : decode cX0_keep 34 = .ok (.iload 5, 2) := by decide +kernel
theorem dX0_keep_36 : decode cX0_keep 36 = .ok (.iload_n 3, 1) := by decide +kernel
theorem dX0_keep_37 : decode cX0_keep 37 = .ok (.iastore, 1) := by decide +kernel
theorem dX0_keep_38 : decode cX0_keep 38 = .ok (.aload_n 0, 1) := by decide +kernel
theorem dX0_keep_39 : decode cX0_keep 39 = .ok (.getfield 21, 3) := by decide +kernel
theorem dX0_keep_42 : decode cX0_keep 42 = .ok (.iload 5, 2) := by decide +kernel
theorem dX0_keep_44 : decode cX0_keep 44 = .ok (.iload 4, 2) := by decide +kernel
theorem dX0_keep_46 : decode cX0_keep 46 = .ok (.iastore, 1) := by decide +kernel
theorem dX0_keep_47 : decode cX0_keep 47 = .ok (.aload_n 0, 1) := by decide +kernel
theorem dX0_keep_48 : decode cX0_keep 48 = .ok (.getfield 28, 3) := by decide +kernel
theorem dX0_keep_51 : decode cX0_keep 51 = .ok (.bipush 30, 2) := by decide +kernel
theorem dX0_keep_53 : decode cX0_keep 53 = .ok (.if_icmp .ge 16, 3) := by decide +kernel
theorem dX0_keep_56 : decode cX0_keep 56 = .ok (.aload_n 0, 1) := by decide +kernel
theorem dX0_keep_57 : decode cX0_keep 57 = .ok (.dup, 1) := by decide +kernel
theorem dX0_keep_58 : decode cX0_keep 58 = .ok (.getfield 28, 3) := by decide +kernel
theorem dX0_keep_61 : decode cX0_keep 61 = .ok (.iconst 1, 1) := by decide +kernel
theorem dX0_keep_62 : decode cX0_keep 62 = .ok (.iadd, 1) := by decide +kernel
theorem dX0_keep_63 : decode cX0_keep 63 = .ok (.putfield 28, 3) := by decide +kernel
theorem dX0_keep_66 : decode cX0_keep 66 = .ok (.goto 16, 3) := by decide +kernel
theorem dX0_keep_69 : decode cX0_keep 69 = .ok (.aload_n 0, 1) := by decide +kernel
theorem dX0_keep_70 : decode cX0_keep 70 = .ok (.aload_n 0, 1) := by decide +kernel
theorem dX0_keep_71 : decode cX0_keep 71 = .ok (.getfield 24, 3) := by decide +kernel
theorem dX0_keep_74 : decode cX0_keep 74 = .ok (.iconst 1, 1) := by decide +kernel
theorem dX0_keep_75 : decode cX0_keep 75 = .ok (.iadd, 1) := by decide +kernel
theorem dX0_keep_76 : decode cX0_keep 76 = .ok (.bipush 30, 2) := by decide +kernel
theorem dX0_keep_78 : decode cX0_keep 78 = .ok (.irem, 1) := by decide +kernel
theorem dX0_keep_79 : decode cX0_keep 79 = .ok (.putfield 24, 3) := by decide +kernel
theorem dX0_keep_82 : decode cX0_keep 82 = .ok (.return_, 1) := by decide +kernel
theorem dX0_dropLatest_0 : decode cX0_dropLatest 0 = .ok (.aload_n 0, 1) := by decide +kernel
theorem dX0_dropLatest_1 : decode cX0_dropLatest 1 = .ok (.dup, 1) := by decide +kernel
theorem dX0_dropLatest_2 : decode cX0_dropLatest 2 = .ok (.getfield 28, 3) := by decide +kernel
theorem dX0_dropLatest_5 : decode cX0_dropLatest 5 = .ok (.iconst 1, 1) := by decide +kernel
theorem dX0_dropLatest_6 : decode cX0_dropLatest 6 = .ok (.isub, 1) := by decide +kernel
theorem dX0_dropLatest_7 : decode cX0_dropLatest 7 = .ok (.putfield 28, 3) := by decide +kernel
theorem dX0_dropLatest_10 : decode cX0_dropLatest 10 = .ok (.aload_n 0, 1) := by decide +kernel
theorem dX0_dropLatest_11 : decode cX0_dropLatest 11 = .ok (.getfield 24, 3) := by decide +kernel
theorem dX0_dropLatest_14 : decode cX0_dropLatest 14 = .ok (.aload_n 0, 1) := by decide +kernel
theorem dX0_dropLatest_15 : decode cX0_dropLatest 15 = .ok (.getfield 28, 3) := by decide +kernel
theorem dX0_dropLatest_18 : decode cX0_dropLatest 18 = .ok (.iadd, 1) := by decide +kernel
theorem dX0_dropLatest_19 : decode cX0_dropLatest 19 = .ok (.bipush 30, 2) := by decide +kernel
theorem dX0_dropLatest_21 : decode cX0_dropLatest 21 = .ok (.irem, 1) := by decide +kernel
theorem dX0_dropLatest_22 : decode cX0_dropLatest 22 = .ok (.ireturn, 1) := by decide +kernel
theorem dX1_init_0 : decode cX1_init 0 = .ok (.aload_n 0, 1) := by decide +kernel
theorem dX1_init_1 : decode cX1_init 1 = .ok (.invokespecial 3, 3) := by decide +kernel
theorem dX1_init_4 : decode cX1_init 4 = .ok (.aload_n 0, 1) := by decide +kernel
theorem dX1_init_5 : decode cX1_init 5 = .ok (.bipush 10, 2) := by decide +kernel
theorem dX1_init_7 : decode cX1_init 7 = .ok (.bipush 10, 2) := by decide +kernel
theorem dX1_init_9 : decode cX1_init 9 = .ok (.multianewarray 9 2, 4) := by decide +kernel
theorem dX1_init_13 : decode cX1_init 13 = .ok (.putfield 11, 3) := by decide +kernel
theorem dX1_init_16 : decode cX1_init 16 = .ok (.return_, 1) := by decide +kernel
theorem dX1_wipe_0 : decode cX1_wipe 0 = .ok (.iconst 0, 1) := by decide +kernel
theorem dX1_wipe_1 : decode cX1_wipe 1 = .ok (.istore_n 1, 1) := by decide +kernel
theorem dX1_wipe_2 : decode cX1_wipe 2 = .ok (.iload_n 1, 1) := by decide +kernel
theorem dX1_wipe_3 : decode cX1_wipe 3 = .ok (.bipush 10, 2) := by decide +kernel
theorem dX1_wipe_5 : decode cX1_wipe 5 = .ok (.if_icmp .ge 19, 3) := by decide +kernel
theorem dX1_wipe_8 : decode cX1_wipe 8 = .ok (.aload_n 0, 1) := by decide +kernel
theorem dX1_wipe_9 : decode cX1_wipe 9 = .ok (.getfield 11, 3) := by decide +kernel
theorem dX1_wipe_12 : decode cX1_wipe 12 = .ok (.iload_n 1, 1) := by decide +kernel
theorem dX1_wipe_13 : decode cX1_wipe 13 = .ok (.aaload, 1) := by decide +kernel
theorem dX1_wipe_14 : decode cX1_wipe 14 = .ok (.iconst 0, 1) := by decide +kernel
theorem dX1_wipe_15 : decode cX1_wipe 15 = .ok (.invokestatic 16, 3) := by decide +kernel
theorem dX1_wipe_18 : decode cX1_wipe 18 = .ok (.iinc 1 1, 3) := by decide +kernel
theorem dX1_wipe_21 : decode cX1_wipe 21 = .ok (.goto (-19), 3) := by decide +kernel
theorem dX1_wipe_24 : decode cX1_wipe 24 = .ok (.return_, 1) := by decide +kernel
theorem dX1_wipePlace_0 : decode cX1_wipePlace 0 = .ok (.iconst 0, 1) := by decide +kernel
theorem dX1_wipePlace_1 : decode cX1_wipePlace 1 = .ok (.istore_n 2, 1) := by decide +kernel
theorem dX1_wipePlace_2 : decode cX1_wipePlace 2 = .ok (.iload_n 2, 1) := by decide +kernel
theorem dX1_wipePlace_3 : decode cX1_wipePlace 3 = .ok (.bipush 10, 2) := by decide +kernel
theorem dX1_wipePlace_5 : decode cX1_wipePlace 5 = .ok (.if_icmp .ge 27, 3) := by decide +kernel
theorem dX1_wipePlace_8 : decode cX1_wipePlace 8 = .ok (.aload_n 0, 1) := by decide +kernel
theorem dX1_wipePlace_9 : decode cX1_wipePlace 9 = .ok (.getfield 11, 3) := by decide +kernel
theorem dX1_wipePlace_12 : decode cX1_wipePlace 12 = .ok (.iload_n 1, 1) := by decide +kernel
theorem dX1_wipePlace_13 : decode cX1_wipePlace 13 = .ok (.aaload, 1) := by decide +kernel
theorem dX1_wipePlace_14 : decode cX1_wipePlace 14 = .ok (.iload_n 2, 1) := by decide +kernel
theorem dX1_wipePlace_15 : decode cX1_wipePlace 15 = .ok (.iconst 0, 1) := by decide +kernel
theorem dX1_wipePlace_16 : decode cX1_wipePlace 16 = .ok (.iastore, 1) := by decide +kernel
theorem dX1_wipePlace_17 : decode cX1_wipePlace 17 = .ok (.aload_n 0, 1) := by decide +kernel
theorem dX1_wipePlace_18 : decode cX1_wipePlace 18 = .ok (.getfield 11, 3) := by decide +kernel
theorem dX1_wipePlace_21 : decode cX1_wipePlace 21 = .ok (.iload_n 2, 1) := by decide +kernel
theorem dX1_wipePlace_22 : decode cX1_wipePlace 22 = .ok (.aaload, 1) := by decide +kernel
theorem dX1_wipePlace_23 : decode cX1_wipePlace 23 = .ok (.iload_n 1, 1) := by decide +kernel
theorem dX1_wipePlace_24 : decode cX1_wipePlace 24 = .ok (.iconst 0, 1) := by decide +kernel
theorem dX1_wipePlace_25 : decode cX1_wipePlace 25 = .ok (.iastore, 1) := by decide +kernel
theorem dX1_wipePlace_26 : decode cX1_wipePlace 26 = .ok (.iinc 2 1, 3) := by decide +kernel
theorem dX1_wipePlace_29 : decode cX1_wipePlace 29 = .ok (.goto (-27), 3) := by decide +kernel
theorem dX1_wipePlace_32 : decode cX1_wipePlace 32 = .ok (.return_, 1) := by decide +kernel
theorem dX1_others_0 : decode cX1_others 0 = .ok (.iconst 0, 1) := by decide +kernel
theorem dX1_others_1 : decode cX1_others 1 = .ok (.istore_n 1, 1) := by decide +kernel
theorem dX1_others_2 : decode cX1_others 2 = .ok (.iconst 0, 1) := by decide +kernel
theorem dX1_others_3 : decode cX1_others 3 = .ok (.istore_n 2, 1) := by decide +kernel
theorem dX1_others_4 : decode cX1_others 4 = .ok (.iload_n 2, 1) := by decide +kernel
theorem dX1_others_5 : decode cX1_others 5 = .ok (.bipush 10, 2) := by decide +kernel
theorem dX1_others_7 : decode cX1_others 7 = .ok (.if_icmp .ge 37, 3) := by decide +kernel
theorem dX1_others_10 : decode cX1_others 10 = .ok (.iconst 0, 1) := by decide +kernel
theorem dX1_others_11 : decode cX1_others 11 = .ok (.istore_n 3, 1) := by decide +kernel
theorem dX1_others_12 : decode cX1_others 12 = .ok (.iload_n 3, 1) := by decide +kernel
theorem dX1_others_13 : decode cX1_others 13 = .ok (.bipush 10, 2) := by decide +kernel
theorem dX1_others_15 : decode cX1_others 15 = .ok (.if_icmp .ge 23, 3) := by decide +kernel
theorem dX1_others_18 : decode cX1_others 18 = .ok (.aload_n 0, 1) := by decide +kernel
theorem dX1_others_19 : decode cX1_others 19 = .ok (.getfield 11, 3) := by decide +kernel
theorem dX1_others_22 : decode cX1_others 22 = .ok (.iload_n 2, 1) := by decide +kernel
theorem dX1_others_23 : decode cX1_others 23 = .ok (.aaload, 1) := by decide +kernel
theorem dX1_others_24 : decode cX1_others 24 = .ok (.iload_n 3, 1) := by decide +kernel
theorem dX1_others_25 : decode cX1_others 25 = .ok (.iaload, 1) := by decide +kernel
theorem dX1_others_26 : decode cX1_others 26 = .ok (.ifCond .eq 6, 3) := by decide +kernel
theorem dX1_others_29 : decode cX1_others 29 = .ok (.iinc 1 1, 3) := by decide +kernel
theorem dX1_others_32 : decode cX1_others 32 = .ok (.iinc 3 1, 3) := by decide +kernel
theorem dX1_others_35 : decode cX1_others 35 = .ok (.goto (-23), 3) := by decide +kernel
theorem dX1_others_38 : decode cX1_others 38 = .ok (.iinc 2 1, 3) := by decide +kernel
theorem dX1_others_41 : decode cX1_others 41 = .ok (.goto (-37), 3) := by decide +kernel
theorem dX1_others_44 : decode cX1_others 44 = .ok (.iload_n 1, 1) := by decide +kernel
theorem dX1_others_45 : decode cX1_others 45 = .ok (.ireturn, 1) := by decide +kernel
theorem dX1_firstWrongFrom_0 : decode cX1_firstWrongFrom 0 = .ok (.iconst 0, 1) := by decide +kernel
theorem dX1_firstWrongFrom_1 : decode cX1_firstWrongFrom 1 = .ok (.istore_n 3, 1) := by decide +kernel
theorem dX1_firstWrongFrom_2 : decode cX1_firstWrongFrom 2 = .ok (.iload_n 3, 1) := by decide +kernel
theorem dX1_firstWrongFrom_3 : decode cX1_firstWrongFrom 3 = .ok (.iload_n 1, 1) := by decide +kernel
theorem dX1_firstWrongFrom_4 : decode cX1_firstWrongFrom 4 = .ok (.if_icmp .ge 51, 3) := by decide +kernel
theorem dX1_firstWrongFrom_7 : decode cX1_firstWrongFrom 7 = .ok (.iconst 0, 1) := by decide +kernel
theorem dX1_firstWrongFrom_8 : decode cX1_firstWrongFrom 8 = .ok (.istore 4, 2) := by decide +kernel
theorem dX1_firstWrongFrom_10 : decode cX1_firstWrongFrom 10 = .ok (.iconst 0, 1) := by decide +kernel
theorem dX1_firstWrongFrom_11 : decode cX1_firstWrongFrom 11 = .ok (.istore 5, 2) := by decide +kernel
theorem dX1_firstWrongFrom_13 : decode cX1_firstWrongFrom 13 = .ok (.iload 5, 2) := by decide +kernel
theorem dX1_firstWrongFrom_15 : decode cX1_firstWrongFrom 15 = .ok (.iload_n 1, 1) := by decide +kernel
theorem dX1_firstWrongFrom_16 : decode cX1_firstWrongFrom 16 = .ok (.if_icmp .ge 23, 3) := by decide +kernel
theorem dX1_firstWrongFrom_19 : decode cX1_firstWrongFrom 19 = .ok (.iload 4, 2) := by decide +kernel
theorem dX1_firstWrongFrom_21 : decode cX1_firstWrongFrom 21 = .ok (.aload_n 0, 1) := by decide +kernel
theorem dX1_firstWrongFrom_22 : decode cX1_firstWrongFrom 22 = .ok (.getfield 11, 3) := by decide +kernel
theorem dX1_firstWrongFrom_25 : decode cX1_firstWrongFrom 25 = .ok (.iload_n 3, 1) := by decide +kernel
theorem dX1_firstWrongFrom_26 : decode cX1_firstWrongFrom 26 = .ok (.aaload, 1) := by decide +kernel
theorem dX1_firstWrongFrom_27 : decode cX1_firstWrongFrom 27 = .ok (.iload 5, 2) := by decide +kernel
theorem dX1_firstWrongFrom_29 : decode cX1_firstWrongFrom 29 = .ok (.iaload, 1) := by decide +kernel
theorem dX1_firstWrongFrom_30 : decode cX1_firstWrongFrom 30 = .ok (.iadd, 1) := by decide +kernel
theorem dX1_firstWrongFrom_31 : decode cX1_firstWrongFrom 31 = .ok (.istore 4, 2) := by decide +kernel
theorem dX1_firstWrongFrom_33 : decode cX1_firstWrongFrom 33 = .ok (.iinc 5 1, 3) := by decide +kernel
theorem dX1_firstWrongFrom_36 : decode cX1_firstWrongFrom 36 = .ok (.goto (-23), 3) := by decide +kernel
theorem dX1_firstWrongFrom_39 : decode cX1_firstWrongFrom 39 = .ok (.iload 4, 2) := by decide +kernel
theorem dX1_firstWrongFrom_41 : decode cX1_firstWrongFrom 41 = .ok (.aload_n 2, 1) := by decide +kernel
theorem dX1_firstWrongFrom_42 : decode cX1_firstWrongFrom 42 = .ok (.iload_n 3, 1) := by decide +kernel
theorem dX1_firstWrongFrom_43 : decode cX1_firstWrongFrom 43 = .ok (.iaload, 1) := by decide +kernel
theorem dX1_firstWrongFrom_44 : decode cX1_firstWrongFrom 44 = .ok (.if_icmp .eq 5, 3) := by decide +kernel
theorem dX1_firstWrongFrom_47 : decode cX1_firstWrongFrom 47 = .ok (.iload_n 3, 1) := by decide +kernel
theorem dX1_firstWrongFrom_48 : decode cX1_firstWrongFrom 48 = .ok (.ireturn, 1) := by decide +kernel
theorem dX1_firstWrongFrom_49 : decode cX1_firstWrongFrom 49 = .ok (.iinc 3 1, 3) := by decide +kernel
theorem dX1_firstWrongFrom_52 : decode cX1_firstWrongFrom 52 = .ok (.goto (-50), 3) := by decide +kernel
theorem dX1_firstWrongFrom_55 : decode cX1_firstWrongFrom 55 = .ok (.iconst (-1), 1) := by decide +kernel
theorem dX1_firstWrongFrom_56 : decode cX1_firstWrongFrom 56 = .ok (.ireturn, 1) := by decide +kernel
theorem dX1_firstWrongTo_0 : decode cX1_firstWrongTo 0 = .ok (.iconst 0, 1) := by decide +kernel
theorem dX1_firstWrongTo_1 : decode cX1_firstWrongTo 1 = .ok (.istore_n 3, 1) := by decide +kernel
theorem dX1_firstWrongTo_2 : decode cX1_firstWrongTo 2 = .ok (.iload_n 3, 1) := by decide +kernel
theorem dX1_firstWrongTo_3 : decode cX1_firstWrongTo 3 = .ok (.iload_n 1, 1) := by decide +kernel
theorem dX1_firstWrongTo_4 : decode cX1_firstWrongTo 4 = .ok (.if_icmp .ge 51, 3) := by decide +kernel
theorem dX1_firstWrongTo_7 : decode cX1_firstWrongTo 7 = .ok (.iconst 0, 1) := by decide +kernel
theorem dX1_firstWrongTo_8 : decode cX1_firstWrongTo 8 = .ok (.istore 4, 2) := by decide +kernel
theorem dX1_firstWrongTo_10 : decode cX1_firstWrongTo 10 = .ok (.iconst 0, 1) := by decide +kernel
theorem dX1_firstWrongTo_11 : decode cX1_firstWrongTo 11 = .ok (.istore 5, 2) := by decide +kernel
theorem dX1_firstWrongTo_13 : decode cX1_firstWrongTo 13 = .ok (.iload 5, 2) := by decide +kernel
theorem dX1_firstWrongTo_15 : decode cX1_firstWrongTo 15 = .ok (.iload_n 1, 1) := by decide +kernel
theorem dX1_firstWrongTo_16 : decode cX1_firstWrongTo 16 = .ok (.if_icmp .ge 23, 3) := by decide +kernel
theorem dX1_firstWrongTo_19 : decode cX1_firstWrongTo 19 = .ok (.iload 4, 2) := by decide +kernel
theorem dX1_firstWrongTo_21 : decode cX1_firstWrongTo 21 = .ok (.aload_n 0, 1) := by decide +kernel
theorem dX1_firstWrongTo_22 : decode cX1_firstWrongTo 22 = .ok (.getfield 11, 3) := by decide +kernel
theorem dX1_firstWrongTo_25 : decode cX1_firstWrongTo 25 = .ok (.iload 5, 2) := by decide +kernel
theorem dX1_firstWrongTo_27 : decode cX1_firstWrongTo 27 = .ok (.aaload, 1) := by decide +kernel
theorem dX1_firstWrongTo_28 : decode cX1_firstWrongTo 28 = .ok (.iload_n 3, 1) := by decide +kernel
theorem dX1_firstWrongTo_29 : decode cX1_firstWrongTo 29 = .ok (.iaload, 1) := by decide +kernel
theorem dX1_firstWrongTo_30 : decode cX1_firstWrongTo 30 = .ok (.iadd, 1) := by decide +kernel
theorem dX1_firstWrongTo_31 : decode cX1_firstWrongTo 31 = .ok (.istore 4, 2) := by decide +kernel
theorem dX1_firstWrongTo_33 : decode cX1_firstWrongTo 33 = .ok (.iinc 5 1, 3) := by decide +kernel
theorem dX1_firstWrongTo_36 : decode cX1_firstWrongTo 36 = .ok (.goto (-23), 3) := by decide +kernel
theorem dX1_firstWrongTo_39 : decode cX1_firstWrongTo 39 = .ok (.iload 4, 2) := by decide +kernel
theorem dX1_firstWrongTo_41 : decode cX1_firstWrongTo 41 = .ok (.aload_n 2, 1) := by decide +kernel
theorem dX1_firstWrongTo_42 : decode cX1_firstWrongTo 42 = .ok (.iload_n 3, 1) := by decide +kernel
theorem dX1_firstWrongTo_43 : decode cX1_firstWrongTo 43 = .ok (.iaload, 1) := by decide +kernel
theorem dX1_firstWrongTo_44 : decode cX1_firstWrongTo 44 = .ok (.if_icmp .eq 5, 3) := by decide +kernel
theorem dX1_firstWrongTo_47 : decode cX1_firstWrongTo 47 = .ok (.iload_n 3, 1) := by decide +kernel
theorem dX1_firstWrongTo_48 : decode cX1_firstWrongTo 48 = .ok (.ireturn, 1) := by decide +kernel
theorem dX1_firstWrongTo_49 : decode cX1_firstWrongTo 49 = .ok (.iinc 3 1, 3) := by decide +kernel
theorem dX1_firstWrongTo_52 : decode cX1_firstWrongTo 52 = .ok (.goto (-50), 3) := by decide +kernel
theorem dX1_firstWrongTo_55 : decode cX1_firstWrongTo 55 = .ok (.iconst (-1), 1) := by decide +kernel
theorem dX1_firstWrongTo_56 : decode cX1_firstWrongTo 56 = .ok (.ireturn, 1) := by decide +kernel
theorem dX1_cost_0 : decode cX1_cost 0 = .ok (.iconst 0, 1) := by decide +kernel
theorem dX1_cost_1 : decode cX1_cost 1 = .ok (.istore_n 2, 1) := by decide +kernel
theorem dX1_cost_2 : decode cX1_cost 2 = .ok (.iconst 0, 1) := by decide +kernel
theorem dX1_cost_3 : decode cX1_cost 3 = .ok (.istore_n 3, 1) := by decide +kernel
theorem dX1_cost_4 : decode cX1_cost 4 = .ok (.iload_n 3, 1) := by decide +kernel
theorem dX1_cost_5 : decode cX1_cost 5 = .ok (.aload_n 1, 1) := by decide +kernel
theorem dX1_cost_6 : decode cX1_cost 6 = .ok (.getfield 22, 3) := by decide +kernel
theorem dX1_cost_9 : decode cX1_cost 9 = .ok (.if_icmp .ge 49, 3) := by decide +kernel
theorem dX1_cost_12 : decode cX1_cost 12 = .ok (.iconst 0, 1) := by decide +kernel
theorem dX1_cost_13 : decode cX1_cost 13 = .ok (.istore 4, 2) := by decide +kernel
theorem dX1_cost_15 : decode cX1_cost 15 = .ok (.iload 4, 2) := by decide +kernel
theorem dX1_cost_17 : decode cX1_cost 17 = .ok (.aload_n 1, 1) := by decide +kernel
theorem dX1_cost_18 : decode cX1_cost 18 = .ok (.getfield 22, 3) := by decide +kernel
theorem dX1_cost_21 : decode cX1_cost 21 = .ok (.if_icmp .ge 31, 3) := by decide +kernel
theorem dX1_cost_24 : decode cX1_cost 24 = .ok (.iload_n 2, 1) := by decide +kernel
theorem dX1_cost_25 : decode cX1_cost 25 = .ok (.aload_n 0, 1) := by decide +kernel
theorem dX1_cost_26 : decode cX1_cost 26 = .ok (.getfield 11, 3) := by decide +kernel
theorem dX1_cost_29 : decode cX1_cost 29 = .ok (.iload_n 3, 1) := by decide +kernel
theorem dX1_cost_30 : decode cX1_cost 30 = .ok (.aaload, 1) := by decide +kernel
theorem dX1_cost_31 : decode cX1_cost 31 = .ok (.iload 4, 2) := by decide +kernel
theorem dX1_cost_33 : decode cX1_cost 33 = .ok (.iaload, 1) := by decide +kernel
theorem dX1_cost_34 : decode cX1_cost 34 = .ok (.aload_n 1, 1) := by decide +kernel
theorem dX1_cost_35 : decode cX1_cost 35 = .ok (.getfield 28, 3) := by decide +kernel
theorem dX1_cost_38 : decode cX1_cost 38 = .ok (.iload_n 3, 1) := by decide +kernel
theorem dX1_cost_39 : decode cX1_cost 39 = .ok (.aaload, 1) := by decide +kernel
theorem dX1_cost_40 : decode cX1_cost 40 = .ok (.iload 4, 2) := by decide +kernel
theorem dX1_cost_42 : decode cX1_cost 42 = .ok (.iaload, 1) := by decide +kernel
theorem dX1_cost_43 : decode cX1_cost 43 = .ok (.imul, 1) := by decide +kernel
theorem dX1_cost_44 : decode cX1_cost 44 = .ok (.iadd, 1) := by decide +kernel
theorem dX1_cost_45 : decode cX1_cost 45 = .ok (.istore_n 2, 1) := by decide +kernel
theorem dX1_cost_46 : decode cX1_cost 46 = .ok (.iinc 4 1, 3) := by decide +kernel
theorem dX1_cost_49 : decode cX1_cost 49 = .ok (.goto (-34), 3) := by decide +kernel
theorem dX1_cost_52 : decode cX1_cost 52 = .ok (.iinc 3 1, 3) := by decide +kernel
theorem dX1_cost_55 : decode cX1_cost 55 = .ok (.goto (-51), 3) := by decide +kernel
theorem dX1_cost_58 : decode cX1_cost 58 = .ok (.iload_n 2, 1) := by decide +kernel
theorem dX1_cost_59 : decode cX1_cost 59 = .ok (.ireturn, 1) := by decide +kernel
theorem dX2_init_0 : decode cX2_init 0 = .ok (.aload_n 0, 1) := by decide +kernel
theorem dX2_init_1 : decode cX2_init 1 = .ok (.invokespecial 3, 3) := by decide +kernel
theorem dX2_init_4 : decode cX2_init 4 = .ok (.aload_n 0, 1) := by decide +kernel
theorem dX2_init_5 : decode cX2_init 5 = .ok (.bipush 8, 2) := by decide +kernel
theorem dX2_init_7 : decode cX2_init 7 = .ok (.bipush 10, 2) := by decide +kernel
theorem dX2_init_9 : decode cX2_init 9 = .ok (.multianewarray 9 2, 4) := by decide +kernel
theorem dX2_init_13 : decode cX2_init 13 = .ok (.putfield 11, 3) := by decide +kernel
theorem dX2_init_16 : decode cX2_init 16 = .ok (.return_, 1) := by decide +kernel
theorem dX2_has_0 : decode cX2_has 0 = .ok (.iload_n 1, 1) := by decide +kernel
theorem dX2_has_1 : decode cX2_has 1 = .ok (.ifCond .lt 15, 3) := by decide +kernel
theorem dX2_has_4 : decode cX2_has 4 = .ok (.iload_n 1, 1) := by decide +kernel
theorem dX2_has_5 : decode cX2_has 5 = .ok (.aload_n 0, 1) := by decide +kernel
theorem dX2_has_6 : decode cX2_has 6 = .ok (.getfield 16, 3) := by decide +kernel
theorem dX2_has_9 : decode cX2_has 9 = .ok (.if_icmp .ge 7, 3) := by decide +kernel
theorem dX2_has_12 : decode cX2_has 12 = .ok (.iconst 1, 1) := by decide +kernel
theorem dX2_has_13 : decode cX2_has 13 = .ok (.goto 4, 3) := by decide +kernel
theorem dX2_has_16 : decode cX2_has 16 = .ok (.iconst 0, 1) := by decide +kernel
theorem dX2_has_17 : decode cX2_has 17 = .ok (.ireturn, 1) := by decide +kernel
theorem dX2_total_0 : decode cX2_total 0 = .ok (.iconst 0, 1) := by decide +kernel
theorem dX2_total_1 : decode cX2_total 1 = .ok (.istore_n 2, 1) := by decide +kernel
theorem dX2_total_2 : decode cX2_total 2 = .ok (.iconst 0, 1) := by decide +kernel
theorem dX2_total_3 : decode cX2_total 3 = .ok (.istore_n 3, 1) := by decide +kernel
theorem dX2_total_4 : decode cX2_total 4 = .ok (.iload_n 3, 1) := by decide +kernel
theorem dX2_total_5 : decode cX2_total 5 = .ok (.bipush 10, 2) := by decide +kernel
theorem dX2_total_7 : decode cX2_total 7 = .ok (.if_icmp .ge 20, 3) := by decide +kernel
theorem dX2_total_10 : decode cX2_total 10 = .ok (.iload_n 2, 1) := by decide +kernel
theorem dX2_total_11 : decode cX2_total 11 = .ok (.aload_n 0, 1) := by decide +kernel
theorem dX2_total_12 : decode cX2_total 12 = .ok (.getfield 11, 3) := by decide +kernel
theorem dX2_total_15 : decode cX2_total 15 = .ok (.iload_n 1, 1) := by decide +kernel
theorem dX2_total_16 : decode cX2_total 16 = .ok (.aaload, 1) := by decide +kernel
theorem dX2_total_17 : decode cX2_total 17 = .ok (.iload_n 3, 1) := by decide +kernel
theorem dX2_total_18 : decode cX2_total 18 = .ok (.iaload, 1) := by decide +kernel
theorem dX2_total_19 : decode cX2_total 19 = .ok (.iadd, 1) := by decide +kernel
theorem dX2_total_20 : decode cX2_total 20 = .ok (.istore_n 2, 1) := by decide +kernel
theorem dX2_total_21 : decode cX2_total 21 = .ok (.iinc 3 1, 3) := by decide +kernel
theorem dX2_total_24 : decode cX2_total 24 = .ok (.goto (-20), 3) := by decide +kernel
theorem dX2_total_27 : decode cX2_total 27 = .ok (.iload_n 2, 1) := by decide +kernel
theorem dX2_total_28 : decode cX2_total 28 = .ok (.ireturn, 1) := by decide +kernel
theorem dX3_init_0 : decode cX3_init 0 = .ok (.aload_n 0, 1) := by decide +kernel
theorem dX3_init_1 : decode cX3_init 1 = .ok (.invokespecial 3, 3) := by decide +kernel
theorem dX3_init_4 : decode cX3_init 4 = .ok (.aload_n 0, 1) := by decide +kernel
theorem dX3_init_5 : decode cX3_init 5 = .ok (.bipush 30, 2) := by decide +kernel
theorem dX3_init_7 : decode cX3_init 7 = .ok (.newarray .int, 2) := by decide +kernel
theorem dX3_init_9 : decode cX3_init 9 = .ok (.putfield 9, 3) := by decide +kernel
theorem dX3_init_12 : decode cX3_init 12 = .ok (.aload_n 0, 1) := by decide +kernel
theorem dX3_init_13 : decode cX3_init 13 = .ok (.bipush 30, 2) := by decide +kernel
theorem dX3_init_15 : decode cX3_init 15 = .ok (.newarray .int, 2) := by decide +kernel
theorem dX3_init_17 : decode cX3_init 17 = .ok (.putfield 15, 3) := by decide +kernel
theorem dX3_init_20 : decode cX3_init 20 = .ok (.aload_n 0, 1) := by decide +kernel
theorem dX3_init_21 : decode cX3_init 21 = .ok (.bipush 30, 2) := by decide +kernel
theorem dX3_init_23 : decode cX3_init 23 = .ok (.newarray .int, 2) := by decide +kernel
theorem dX3_init_25 : decode cX3_init 25 = .ok (.putfield 18, 3) := by decide +kernel
theorem dX3_init_28 : decode cX3_init 28 = .ok (.aload_n 0, 1) := by decide +kernel
theorem dX3_init_29 : decode cX3_init 29 = .ok (.bipush 10, 2) := by decide +kernel
theorem dX3_init_31 : decode cX3_init 31 = .ok (.newarray .int, 2) := by decide +kernel
theorem dX3_init_33 : decode cX3_init 33 = .ok (.putfield 21, 3) := by decide +kernel
theorem dX3_init_36 : decode cX3_init 36 = .ok (.aload_n 0, 1) := by decide +kernel
theorem dX3_init_37 : decode cX3_init 37 = .ok (.bipush 10, 2) := by decide +kernel
theorem dX3_init_39 : decode cX3_init 39 = .ok (.bipush 10, 2) := by decide +kernel
theorem dX3_init_41 : decode cX3_init 41 = .ok (.multianewarray 24 2, 4) := by decide +kernel
theorem dX3_init_45 : decode cX3_init 45 = .ok (.putfield 26, 3) := by decide +kernel
theorem dX3_init_48 : decode cX3_init 48 = .ok (.aload_n 0, 1) := by decide +kernel
theorem dX3_init_49 : decode cX3_init 49 = .ok (.bipush 10, 2) := by decide +kernel
theorem dX3_init_51 : decode cX3_init 51 = .ok (.bipush 10, 2) := by decide +kernel
theorem dX3_init_53 : decode cX3_init 53 = .ok (.multianewarray 24 2, 4) := by decide +kernel
theorem dX3_init_57 : decode cX3_init 57 = .ok (.putfield 29, 3) := by decide +kernel
theorem dX3_init_60 : decode cX3_init 60 = .ok (.iconst 0, 1) := by decide +kernel
theorem dX3_init_61 : decode cX3_init 61 = .ok (.istore_n 1, 1) := by decide +kernel
theorem dX3_init_62 : decode cX3_init 62 = .ok (.iload_n 1, 1) := by decide +kernel
theorem dX3_init_63 : decode cX3_init 63 = .ok (.bipush 10, 2) := by decide +kernel
theorem dX3_init_65 : decode cX3_init 65 = .ok (.if_icmp .ge 16, 3) := by decide +kernel
theorem dX3_init_68 : decode cX3_init 68 = .ok (.aload_n 0, 1) := by decide +kernel
theorem dX3_init_69 : decode cX3_init 69 = .ok (.getfield 21, 3) := by decide +kernel
theorem dX3_init_72 : decode cX3_init 72 = .ok (.iload_n 1, 1) := by decide +kernel
theorem dX3_init_73 : decode cX3_init 73 = .ok (.iconst (-1), 1) := by decide +kernel
theorem dX3_init_74 : decode cX3_init 74 = .ok (.iastore, 1) := by decide +kernel
theorem dX3_init_75 : decode cX3_init 75 = .ok (.iinc 1 1, 3) := by decide +kernel
theorem dX3_init_78 : decode cX3_init 78 = .ok (.goto (-16), 3) := by decide +kernel
theorem dX3_init_81 : decode cX3_init 81 = .ok (.return_, 1) := by decide +kernel
theorem dX3_has_0 : decode cX3_has 0 = .ok (.iload_n 1, 1) := by decide +kernel
theorem dX3_has_1 : decode cX3_has 1 = .ok (.ifCond .lt 15, 3) := by decide +kernel
theorem dX3_has_4 : decode cX3_has 4 = .ok (.iload_n 1, 1) := by decide +kernel
theorem dX3_has_5 : decode cX3_has 5 = .ok (.aload_n 0, 1) := by decide +kernel
theorem dX3_has_6 : decode cX3_has 6 = .ok (.getfield 32, 3) := by decide +kernel
theorem dX3_has_9 : decode cX3_has 9 = .ok (.if_icmp .ge 7, 3) := by decide +kernel
theorem dX3_has_12 : decode cX3_has 12 = .ok (.iconst 1, 1) := by decide +kernel
theorem dX3_has_13 : decode cX3_has 13 = .ok (.goto 4, 3) := by decide +kernel
theorem dX3_has_16 : decode cX3_has 16 = .ok (.iconst 0, 1) := by decide +kernel
theorem dX3_has_17 : decode cX3_has 17 = .ok (.ireturn, 1) := by decide +kernel
theorem dX3_addPlace_0 : decode cX3_addPlace 0 = .ok (.aload_n 0, 1) := by decide +kernel
theorem dX3_addPlace_1 : decode cX3_addPlace 1 = .ok (.getfield 32, 3) := by decide +kernel
theorem dX3_addPlace_4 : decode cX3_addPlace 4 = .ok (.istore_n 1, 1) := by decide +kernel
theorem dX3_addPlace_5 : decode cX3_addPlace 5 = .ok (.aload_n 0, 1) := by decide +kernel
theorem dX3_addPlace_6 : decode cX3_addPlace 6 = .ok (.dup, 1) := by decide +kernel
theorem dX3_addPlace_7 : decode cX3_addPlace 7 = .ok (.getfield 32, 3) := by decide +kernel
theorem dX3_addPlace_10 : decode cX3_addPlace 10 = .ok (.iconst 1, 1) := by decide +kernel
theorem dX3_addPlace_11 : decode cX3_addPlace 11 = .ok (.iadd, 1) := by decide +kernel
theorem dX3_addPlace_12 : decode cX3_addPlace 12 = .ok (.putfield 32, 3) := by decide +kernel
theorem dX3_addPlace_15 : decode cX3_addPlace 15 = .ok (.aload_n 0, 1) := by decide +kernel
theorem dX3_addPlace_16 : decode cX3_addPlace 16 = .ok (.invokevirtual 36, 3) := by decide +kernel
theorem dX3_addPlace_19 : decode cX3_addPlace 19 = .ok (.iload_n 1, 1) := by decide +kernel
theorem dX3_addPlace_20 : decode cX3_addPlace 20 = .ok (.ireturn, 1) := by decide +kernel
theorem dX3_dropPlace_0 : decode cX3_dropPlace 0 = .ok (.aload_n 0, 1) := by decide +kernel
theorem dX3_dropPlace_1 : decode cX3_dropPlace 1 = .ok (.dup, 1) := by decide +kernel
theorem dX3_dropPlace_2 : decode cX3_dropPlace 2 = .ok (.getfield 32, 3) := by decide +kernel
theorem dX3_dropPlace_5 : decode cX3_dropPlace 5 = .ok (.iconst 1, 1) := by decide +kernel
theorem dX3_dropPlace_6 : decode cX3_dropPlace 6 = .ok (.isub, 1) := by decide +kernel
theorem dX3_dropPlace_7 : decode cX3_dropPlace 7 = .ok (.putfield 32, 3) := by decide +kernel
theorem dX3_dropPlace_10 : decode cX3_dropPlace 10 = .ok (.return_, 1) := by decide +kernel
theorem dX3_addRoad_0 : decode cX3_addRoad 0 = .ok (.aload_n 0, 1) := by decide +kernel
theorem dX3_addRoad_1 : decode cX3_addRoad 1 = .ok (.getfield 39, 3) := by decide +kernel
theorem dX3_addRoad_4 : decode cX3_addRoad 4 = .ok (.istore 4, 2) := by decide +kernel
theorem dX3_addRoad_6 : decode cX3_addRoad 6 = .ok (.aload_n 0, 1) := by decide +kernel
theorem dX3_addRoad_7 : decode cX3_addRoad 7 = .ok (.getfield 9, 3) := by decide +kernel
theorem dX3_addRoad_10 : decode cX3_addRoad 10 = .ok (.iload 4, 2) := by decide +kernel
theorem dX3_addRoad_12 : decode cX3_addRoad 12 = .ok (.iload_n 1, 1) := by decide +kernel
theorem dX3_addRoad_13 : decode cX3_addRoad 13 = .ok (.iastore, 1) := by decide +kernel
theorem dX3_addRoad_14 : decode cX3_addRoad 14 = .ok (.aload_n 0, 1) := by decide +kernel
theorem dX3_addRoad_15 : decode cX3_addRoad 15 = .ok (.getfield 15, 3) := by decide +kernel
theorem dX3_addRoad_18 : decode cX3_addRoad 18 = .ok (.iload 4, 2) := by decide +kernel
theorem dX3_addRoad_20 : decode cX3_addRoad 20 = .ok (.iload_n 2, 1) := by decide +kernel
theorem dX3_addRoad_21 : decode cX3_addRoad 21 = .ok (.iastore, 1) := by decide +kernel
theorem dX3_addRoad_22 : decode cX3_addRoad 22 = .ok (.aload_n 0, 1) := by decide +kernel
theorem dX3_addRoad_23 : decode cX3_addRoad 23 = .ok (.getfield 18, 3) := by decide +kernel
theorem dX3_addRoad_26 : decode cX3_addRoad 26 = .ok (.iload 4, 2) := by decide +kernel
theorem dX3_addRoad_28 : decode cX3_addRoad 28 = .ok (.iload_n 3, 1) := by decide +kernel
theorem dX3_addRoad_29 : decode cX3_addRoad 29 = .ok (.iastore, 1) := by decide +kernel
theorem dX3_addRoad_30 : decode cX3_addRoad 30 = .ok (.aload_n 0, 1) := by decide +kernel
theorem dX3_addRoad_31 : decode cX3_addRoad 31 = .ok (.dup, 1) := by decide +kernel
theorem dX3_addRoad_32 : decode cX3_addRoad 32 = .ok (.getfield 39, 3) := by decide +kernel
theorem dX3_addRoad_35 : decode cX3_addRoad 35 = .ok (.iconst 1, 1) := by decide +kernel
theorem dX3_addRoad_36 : decode cX3_addRoad 36 = .ok (.iadd, 1) := by decide +kernel
theorem dX3_addRoad_37 : decode cX3_addRoad 37 = .ok (.putfield 39, 3) := by decide +kernel
theorem dX3_addRoad_40 : decode cX3_addRoad 40 = .ok (.aload_n 0, 1) := by decide +kernel
theorem dX3_addRoad_41 : decode cX3_addRoad 41 = .ok (.invokevirtual 36, 3) := by decide +kernel
theorem dX3_addRoad_44 : decode cX3_addRoad 44 = .ok (.iload 4, 2) := by decide +kernel
theorem dX3_addRoad_46 : decode cX3_addRoad 46 = .ok (.ireturn, 1) := by decide +kernel
theorem dX3_dropRoad_0 : decode cX3_dropRoad 0 = .ok (.aload_n 0, 1) := by decide +kernel
theorem dX3_dropRoad_1 : decode cX3_dropRoad 1 = .ok (.dup, 1) := by decide +kernel
theorem dX3_dropRoad_2 : decode cX3_dropRoad 2 = .ok (.getfield 39, 3) := by decide +kernel
theorem dX3_dropRoad_5 : decode cX3_dropRoad 5 = .ok (.iconst 1, 1) := by decide +kernel
theorem dX3_dropRoad_6 : decode cX3_dropRoad 6 = .ok (.isub, 1) := by decide +kernel
theorem dX3_dropRoad_7 : decode cX3_dropRoad 7 = .ok (.putfield 39, 3) := by decide +kernel
theorem dX3_dropRoad_10 : decode cX3_dropRoad 10 = .ok (.aload_n 0, 1) := by decide +kernel
theorem dX3_dropRoad_11 : decode cX3_dropRoad 11 = .ok (.invokevirtual 36, 3) := by decide +kernel
theorem dX3_dropRoad_14 : decode cX3_dropRoad 14 = .ok (.return_, 1) := by decide +kernel
theorem dX3_gates_0 : decode cX3_gates 0 = .ok (.iconst 0, 1) := by decide +kernel
theorem dX3_gates_1 : decode cX3_gates 1 = .ok (.istore_n 1, 1) := by decide +kernel
theorem dX3_gates_2 : decode cX3_gates 2 = .ok (.iconst 0, 1) := by decide +kernel
theorem dX3_gates_3 : decode cX3_gates 3 = .ok (.istore_n 2, 1) := by decide +kernel
theorem dX3_gates_4 : decode cX3_gates 4 = .ok (.iload_n 2, 1) := by decide +kernel
theorem dX3_gates_5 : decode cX3_gates 5 = .ok (.aload_n 0, 1) := by decide +kernel
theorem dX3_gates_6 : decode cX3_gates 6 = .ok (.getfield 32, 3) := by decide +kernel
theorem dX3_gates_9 : decode cX3_gates 9 = .ok (.if_icmp .ge 22, 3) := by decide +kernel
theorem dX3_gates_12 : decode cX3_gates 12 = .ok (.aload_n 0, 1) := by decide +kernel
theorem dX3_gates_13 : decode cX3_gates 13 = .ok (.getfield 21, 3) := by decide +kernel
theorem dX3_gates_16 : decode cX3_gates 16 = .ok (.iload_n 2, 1) := by decide +kernel
theorem dX3_gates_17 : decode cX3_gates 17 = .ok (.iaload, 1) := by decide +kernel
theorem dX3_gates_18 : decode cX3_gates 18 = .ok (.iconst (-1), 1) := by decide +kernel
theorem dX3_gates_19 : decode cX3_gates 19 = .ok (.if_icmp .eq 6, 3) := by decide +kernel
theorem dX3_gates_22 : decode cX3_gates 22 = .ok (.iinc 1 1, 3) := by decide +kernel
theorem dX3_gates_25 : decode cX3_gates 25 = .ok (.iinc 2 1, 3) := by decide +kernel
theorem dX3_gates_28 : decode cX3_gates 28 = .ok (.goto (-24), 3) := by decide +kernel
theorem dX3_gates_31 : decode cX3_gates 31 = .ok (.iload_n 1, 1) := by decide +kernel
theorem dX3_gates_32 : decode cX3_gates 32 = .ok (.ireturn, 1) := by decide +kernel
theorem dX3_isJoined_0 : decode cX3_isJoined 0 = .ok (.iconst 0, 1) := by decide +kernel
theorem dX3_isJoined_1 : decode cX3_isJoined 1 = .ok (.istore_n 1, 1) := by decide +kernel
theorem dX3_isJoined_2 : decode cX3_isJoined 2 = .ok (.iload_n 1, 1) := by decide +kernel
theorem dX3_isJoined_3 : decode cX3_isJoined 3 = .ok (.aload_n 0, 1) := by decide +kernel
theorem dX3_isJoined_4 : decode cX3_isJoined 4 = .ok (.getfield 32, 3) := by decide +kernel
theorem dX3_isJoined_7 : decode cX3_isJoined 7 = .ok (.if_icmp .ge 24, 3) := by decide +kernel
theorem dX3_isJoined_10 : decode cX3_isJoined 10 = .ok (.aload_n 0, 1) := by decide +kernel
theorem dX3_isJoined_11 : decode cX3_isJoined 11 = .ok (.getfield 29, 3) := by decide +kernel
theorem dX3_isJoined_14 : decode cX3_isJoined 14 = .ok (.iconst 0, 1) := by decide +kernel
theorem dX3_isJoined_15 : decode cX3_isJoined 15 = .ok (.aaload, 1) := by decide +kernel
theorem dX3_isJoined_16 : decode cX3_isJoined 16 = .ok (.iload_n 1, 1) := by decide +kernel
theorem dX3_isJoined_17 : decode cX3_isJoined 17 = .ok (.iaload, 1) := by decide +kernel
theorem dX3_isJoined_18 : decode cX3_isJoined 18 = .ok (.ldc 42, 2) := by decide +kernel
theorem dX3_isJoined_20 : decode cX3_isJoined 20 = .ok (.if_icmp .ne 5, 3) := by decide +kernel
theorem dX3_isJoined_23 : decode cX3_isJoined 23 = .ok (.iconst 0, 1) := by decide +kernel
theorem dX3_isJoined_24 : decode cX3_isJoined 24 = .ok (.ireturn, 1) := by decide +kernel
theorem dX3_isJoined_25 : decode cX3_isJoined 25 = .ok (.iinc 1 1, 3) := by decide +kernel
theorem dX3_isJoined_28 : decode cX3_isJoined 28 = .ok (.goto (-26), 3) := by decide +kernel
theorem dX3_isJoined_31 : decode cX3_isJoined 31 = .ok (.iconst 1, 1) := by decide +kernel
theorem dX3_isJoined_32 : decode cX3_isJoined 32 = .ok (.ireturn, 1) := by decide +kernel
theorem dX3_placeBehind_0 : decode cX3_placeBehind 0 = .ok (.iload_n 1, 1) := by decide +kernel
theorem dX3_placeBehind_1 : decode cX3_placeBehind 1 = .ok (.iload_n 2, 1) := by decide +kernel
theorem dX3_placeBehind_2 : decode cX3_placeBehind 2 = .ok (.if_icmp .eq 16, 3) := by decide +kernel
theorem dX3_placeBehind_5 : decode cX3_placeBehind 5 = .ok (.aload_n 0, 1) := by decide +kernel
theorem dX3_placeBehind_6 : decode cX3_placeBehind 6 = .ok (.getfield 29, 3) := by decide +kernel
theorem dX3_placeBehind_9 : decode cX3_placeBehind 9 = .ok (.iload_n 1, 1) := by decide +kernel
theorem dX3_placeBehind_10 : decode cX3_placeBehind 10 = .ok (.aaload, 1) := by decide +kernel
theorem dX3_placeBehind_11 : decode cX3_placeBehind 11 = .ok (.iload_n 2, 1) := by decide +kernel
theorem dX3_placeBehind_12 : decode cX3_placeBehind 12 = .ok (.iaload, 1) := by decide +kernel
theorem dX3_placeBehind_13 : decode cX3_placeBehind 13 = .ok (.ldc 42, 2) := by decide +kernel
theorem dX3_placeBehind_15 : decode cX3_placeBehind 15 = .ok (.if_icmp .ne 5, 3) := by decide +kernel
theorem dX3_placeBehind_18 : decode cX3_placeBehind 18 = .ok (.iconst (-1), 1) := by decide +kernel
theorem dX3_placeBehind_19 : decode cX3_placeBehind 19 = .ok (.ireturn, 1) := by decide +kernel
theorem dX3_placeBehind_20 : decode cX3_placeBehind 20 = .ok (.iconst 0, 1) := by decide +kernel
theorem dX3_placeBehind_21 : decode cX3_placeBehind 21 = .ok (.istore_n 3, 1) := by decide +kernel
theorem dX3_placeBehind_22 : decode cX3_placeBehind 22 = .ok (.iload_n 3, 1) := by decide +kernel
theorem dX3_placeBehind_23 : decode cX3_placeBehind 23 = .ok (.aload_n 0, 1) := by decide +kernel
theorem dX3_placeBehind_24 : decode cX3_placeBehind 24 = .ok (.getfield 32, 3) := by decide +kernel
theorem dX3_placeBehind_27 : decode cX3_placeBehind 27 = .ok (.if_icmp .ge 39, 3) := by decide +kernel
theorem dX3_placeBehind_30 : decode cX3_placeBehind 30 = .ok (.aload_n 0, 1) := by decide +kernel
theorem dX3_placeBehind_31 : decode cX3_placeBehind 31 = .ok (.getfield 26, 3) := by decide +kernel
theorem dX3_placeBehind_34 : decode cX3_placeBehind 34 = .ok (.iload_n 1, 1) := by decide +kernel
theorem dX3_placeBehind_35 : decode cX3_placeBehind 35 = .ok (.aaload, 1) := by decide +kernel
theorem dX3_placeBehind_36 : decode cX3_placeBehind 36 = .ok (.iload_n 3, 1) := by decide +kernel
theorem dX3_placeBehind_37 : decode cX3_placeBehind 37 = .ok (.iaload, 1) := by decide +kernel
theorem dX3_placeBehind_38 : decode cX3_placeBehind 38 = .ok (.aload_n 0, 1) := by decide +kernel
theorem dX3_placeBehind_39 : decode cX3_placeBehind 39 = .ok (.getfield 29, 3) := by decide +kernel
theorem dX3_placeBehind_42 : decode cX3_placeBehind 42 = .ok (.iload_n 3, 1) := by decide +kernel
theorem dX3_placeBehind_43 : decode cX3_placeBehind 43 = .ok (.aaload, 1) := by decide +kernel
theorem dX3_placeBehind_44 : decode cX3_placeBehind 44 = .ok (.iload_n 2, 1) := by decide +kernel
theorem dX3_placeBehind_45 : decode cX3_placeBehind 45 = .ok (.iaload, 1) := by decide +kernel
theorem dX3_placeBehind_46 : decode cX3_placeBehind 46 = .ok (.iadd, 1) := by decide +kernel
theorem dX3_placeBehind_47 : decode cX3_placeBehind 47 = .ok (.aload_n 0, 1) := by decide +kernel
theorem dX3_placeBehind_48 : decode cX3_placeBehind 48 = .ok (.getfield 29, 3) := by decide +kernel
theorem dX3_placeBehind_51 : decode cX3_placeBehind 51 = .ok (.iload_n 1, 1) := by decide +kernel
theorem dX3_placeBehind_52 : decode cX3_placeBehind 52 = .ok (.aaload, 1) := by decide +kernel
theorem dX3_placeBehind_53 : decode cX3_placeBehind 53 = .ok (.iload_n 2, 1) := by decide +kernel
theorem dX3_placeBehind_54 : decode cX3_placeBehind 54 = .ok (.iaload, 1) := by decide +kernel
theorem dX3_placeBehind_55 : decode cX3_placeBehind 55 = .ok (.if_icmp .ne 5, 3) := by decide +kernel
theorem dX3_placeBehind_58 : decode cX3_placeBehind 58 = .ok (.iload_n 3, 1) := by decide +kernel
theorem dX3_placeBehind_59 : decode cX3_placeBehind 59 = .ok (.ireturn, 1) := by decide +kernel
theorem dX3_placeBehind_60 : decode cX3_placeBehind 60 = .ok (.iinc 3 1, 3) := by decide +kernel
theorem dX3_placeBehind_63 : decode cX3_placeBehind 63 = .ok (.goto (-41), 3) := by decide +kernel
theorem dX3_placeBehind_66 : decode cX3_placeBehind 66 = .ok (.iconst (-1), 1) := by decide +kernel
theorem dX3_placeBehind_67 : decode cX3_placeBehind 67 = .ok (.ireturn, 1) := by decide +kernel
theorem dX3_measure_0 : decode cX3_measure 0 = .ok (.aload_n 0, 1) := by decide +kernel
theorem dX3_measure_1 : decode cX3_measure 1 = .ok (.invokevirtual 43, 3) := by decide +kernel
theorem dX3_measure_4 : decode cX3_measure 4 = .ok (.iconst 0, 1) := by decide +kernel
theorem dX3_measure_5 : decode cX3_measure 5 = .ok (.istore_n 1, 1) := by decide +kernel
theorem dX3_measure_6 : decode cX3_measure 6 = .ok (.iload_n 1, 1) := by decide +kernel
theorem dX3_measure_7 : decode cX3_measure 7 = .ok (.aload_n 0, 1) := by decide +kernel
theorem dX3_measure_8 : decode cX3_measure 8 = .ok (.getfield 32, 3) := by decide +kernel
theorem dX3_measure_11 : decode cX3_measure 11 = .ok (.if_icmp .ge 39, 3) := by decide +kernel
theorem dX3_measure_14 : decode cX3_measure 14 = .ok (.aload_n 0, 1) := by decide +kernel
theorem dX3_measure_15 : decode cX3_measure 15 = .ok (.getfield 26, 3) := by decide +kernel
theorem dX3_measure_18 : decode cX3_measure 18 = .ok (.iload_n 1, 1) := by decide +kernel
theorem dX3_measure_19 : decode cX3_measure 19 = .ok (.aaload, 1) := by decide +kernel
theorem dX3_measure_20 : decode cX3_measure 20 = .ok (.iconst 0, 1) := by decide +kernel
theorem dX3_measure_21 : decode cX3_measure 21 = .ok (.aload_n 0, 1) := by decide +kernel
theorem dX3_measure_22 : decode cX3_measure 22 = .ok (.getfield 29, 3) := by decide +kernel
theorem dX3_measure_25 : decode cX3_measure 25 = .ok (.iload_n 1, 1) := by decide +kernel
theorem dX3_measure_26 : decode cX3_measure 26 = .ok (.aaload, 1) := by decide +kernel
theorem dX3_measure_27 : decode cX3_measure 27 = .ok (.iconst 0, 1) := by decide +kernel
theorem dX3_measure_28 : decode cX3_measure 28 = .ok (.aload_n 0, 1) := by decide +kernel
theorem dX3_measure_29 : decode cX3_measure 29 = .ok (.getfield 32, 3) := by decide +kernel
theorem dX3_measure_32 : decode cX3_measure 32 = .ok (.invokestatic 46, 3) := by decide +kernel
theorem dX3_measure_35 : decode cX3_measure 35 = .ok (.aload_n 0, 1) := by decide +kernel
theorem dX3_measure_36 : decode cX3_measure 36 = .ok (.getfield 29, 3) := by decide +kernel
theorem dX3_measure_39 : decode cX3_measure 39 = .ok (.iload_n 1, 1) := by decide +kernel
theorem dX3_measure_40 : decode cX3_measure 40 = .ok (.aaload, 1) := by decide +kernel
theorem dX3_measure_41 : decode cX3_measure 41 = .ok (.iload_n 1, 1) := by decide +kernel
theorem dX3_measure_42 : decode cX3_measure 42 = .ok (.iconst 0, 1) := by decide +kernel
theorem dX3_measure_43 : decode cX3_measure 43 = .ok (.iastore, 1) := by decide +kernel
theorem dX3_measure_44 : decode cX3_measure 44 = .ok (.iinc 1 1, 3) := by decide +kernel
theorem dX3_measure_47 : decode cX3_measure 47 = .ok (.goto (-41), 3) := by decide +kernel
theorem dX3_measure_50 : decode cX3_measure 50 = .ok (.iconst 0, 1) := by decide +kernel
theorem dX3_measure_51 : decode cX3_measure 51 = .ok (.istore_n 1, 1) := by decide +kernel
theorem dX3_measure_52 : decode cX3_measure 52 = .ok (.iload_n 1, 1) := by decide +kernel
theorem dX3_measure_53 : decode cX3_measure 53 = .ok (.aload_n 0, 1) := by decide +kernel
theorem dX3_measure_54 : decode cX3_measure 54 = .ok (.getfield 32, 3) := by decide +kernel
theorem dX3_measure_57 : decode cX3_measure 57 = .ok (.if_icmp .ge 31, 3) := by decide +kernel
theorem dX3_measure_60 : decode cX3_measure 60 = .ok (.iconst 0, 1) := by decide +kernel
theorem dX3_measure_61 : decode cX3_measure 61 = .ok (.istore_n 2, 1) := by decide +kernel
theorem dX3_measure_62 : decode cX3_measure 62 = .ok (.iload_n 2, 1) := by decide +kernel
theorem dX3_measure_63 : decode cX3_measure 63 = .ok (.aload_n 0, 1) := by decide +kernel
theorem dX3_measure_64 : decode cX3_measure 64 = .ok (.getfield 32, 3) := by decide +kernel
theorem dX3_measure_67 : decode cX3_measure 67 = .ok (.if_icmp .ge 15, 3) := by decide +kernel
theorem dX3_measure_70 : decode cX3_measure 70 = .ok (.aload_n 0, 1) := by decide +kernel
theorem dX3_measure_71 : decode cX3_measure 71 = .ok (.iload_n 2, 1) := by decide +kernel
theorem dX3_measure_72 : decode cX3_measure 72 = .ok (.iload_n 1, 1) := by decide +kernel
theorem dX3_measure_73 : decode cX3_measure 73 = .ok (.invokevirtual 52, 3) := by decide +kernel
theorem dX3_measure_76 : decode cX3_measure 76 = .ok (.iinc 2 1, 3) := by decide +kernel
theorem dX3_measure_79 : decode cX3_measure 79 = .ok (.goto (-17), 3) := by decide +kernel
theorem dX3_measure_82 : decode cX3_measure 82 = .ok (.iinc 1 1, 3) := by decide +kernel
theorem dX3_measure_85 : decode cX3_measure 85 = .ok (.goto (-33), 3) := by decide +kernel
theorem dX3_measure_88 : decode cX3_measure 88 = .ok (.return_, 1) := by decide +kernel
theorem dX3_measureRoads_0 : decode cX3_measureRoads 0 = .ok (.iconst 0, 1) := by decide +kernel
theorem dX3_measureRoads_1 : decode cX3_measureRoads 1 = .ok (.istore_n 1, 1) := by decide +kernel
theorem dX3_measureRoads_2 : decode cX3_measureRoads 2 = .ok (.iload_n 1, 1) := by decide +kernel
theorem dX3_measureRoads_3 : decode cX3_measureRoads 3 = .ok (.aload_n 0, 1) := by decide +kernel
theorem dX3_measureRoads_4 : decode cX3_measureRoads 4 = .ok (.getfield 32, 3) := by decide +kernel
theorem dX3_measureRoads_7 : decode cX3_measureRoads 7 = .ok (.if_icmp .ge 20, 3) := by decide +kernel
theorem dX3_measureRoads_10 : decode cX3_measureRoads 10 = .ok (.aload_n 0, 1) := by decide +kernel
theorem dX3_measureRoads_11 : decode cX3_measureRoads 11 = .ok (.getfield 26, 3) := by decide +kernel
theorem dX3_measureRoads_14 : decode cX3_measureRoads 14 = .ok (.iload_n 1, 1) := by decide +kernel
theorem dX3_measureRoads_15 : decode cX3_measureRoads 15 = .ok (.aaload, 1) := by decide +kernel
theorem dX3_measureRoads_16 : decode cX3_measureRoads 16 = .ok (.ldc 42, 2) := by decide +kernel
theorem dX3_measureRoads_18 : decode cX3_measureRoads 18 = .ok (.invokestatic 56, 3) := by decide +kernel
theorem dX3_measureRoads_21 : decode cX3_measureRoads 21 = .ok (.iinc 1 1, 3) := by decide +kernel
theorem dX3_measureRoads_24 : decode cX3_measureRoads 24 = .ok (.goto (-22), 3) := by decide +kernel
theorem dX3_measureRoads_27 : decode cX3_measureRoads 27 = .ok (.iconst 0, 1) := by decide +kernel
theorem dX3_measureRoads_28 : decode cX3_measureRoads 28 = .ok (.istore_n 1, 1) := by decide +kernel
theorem dX3_measureRoads_29 : decode cX3_measureRoads 29 = .ok (.iload_n 1, 1) := by decide +kernel
theorem dX3_measureRoads_30 : decode cX3_measureRoads 30 = .ok (.aload_n 0, 1) := by decide +kernel
theorem dX3_measureRoads_31 : decode cX3_measureRoads 31 = .ok (.getfield 39, 3) := by decide +kernel
theorem dX3_measureRoads_34 : decode cX3_measureRoads 34 = .ok (.if_icmp .ge 62, 3) := by decide +kernel
theorem dX3_measureRoads_37 : decode cX3_measureRoads 37 = .ok (.aload_n 0, 1) := by decide +kernel
theorem dX3_measureRoads_38 : decode cX3_measureRoads 38 = .ok (.getfield 9, 3) := by decide +kernel
theorem dX3_measureRoads_41 : decode cX3_measureRoads 41 = .ok (.iload_n 1, 1) := by decide +kernel
theorem dX3_measureRoads_42 : decode cX3_measureRoads 42 = .ok (.iaload, 1) := by decide +kernel
theorem dX3_measureRoads_43 : decode cX3_measureRoads 43 = .ok (.istore_n 2, 1) := by decide +kernel
theorem dX3_measureRoads_44 : decode cX3_measureRoads 44 = .ok (.aload_n 0, 1) := by decide +kernel
theorem dX3_measureRoads_45 : decode cX3_measureRoads 45 = .ok (.getfield 15, 3) := by decide +kernel
theorem dX3_measureRoads_48 : decode cX3_measureRoads 48 = .ok (.iload_n 1, 1) := by decide +kernel
theorem dX3_measureRoads_49 : decode cX3_measureRoads 49 = .ok (.iaload, 1) := by decide +kernel
theorem dX3_measureRoads_50 : decode cX3_measureRoads 50 = .ok (.istore_n 3, 1) := by decide +kernel
theorem dX3_measureRoads_51 : decode cX3_measureRoads 51 = .ok (.aload_n 0, 1) := by decide +kernel
theorem dX3_measureRoads_52 : decode cX3_measureRoads 52 = .ok (.getfield 26, 3) := by decide +kernel
theorem dX3_measureRoads_55 : decode cX3_measureRoads 55 = .ok (.iload_n 2, 1) := by decide +kernel
theorem dX3_measureRoads_56 : decode cX3_measureRoads 56 = .ok (.aaload, 1) := by decide +kernel
theorem dX3_measureRoads_57 : decode cX3_measureRoads 57 = .ok (.iload_n 3, 1) := by decide +kernel
theorem dX3_measureRoads_58 : decode cX3_measureRoads 58 = .ok (.iaload, 1) := by decide +kernel
theorem dX3_measureRoads_59 : decode cX3_measureRoads 59 = .ok (.aload_n 0, 1) := by decide +kernel
theorem dX3_measureRoads_60 : decode cX3_measureRoads 60 = .ok (.getfield 18, 3) := by decide +kernel
theorem dX3_measureRoads_63 : decode cX3_measureRoads 63 = .ok (.iload_n 1, 1) := by decide +kernel
theorem dX3_measureRoads_64 : decode cX3_measureRoads 64 = .ok (.iaload, 1) := by decide +kernel
theorem dX3_measureRoads_65 : decode cX3_measureRoads 65 = .ok (.invokestatic 62, 3) := by decide +kernel
theorem dX3_measureRoads_68 : decode cX3_measureRoads 68 = .ok (.istore 4, 2) := by decide +kernel
theorem dX3_measureRoads_70 : decode cX3_measureRoads 70 = .ok (.aload_n 0, 1) := by decide +kernel
theorem dX3_measureRoads_71 : decode cX3_measureRoads 71 = .ok (.getfield 26, 3) := by decide +kernel
theorem dX3_measureRoads_74 : decode cX3_measureRoads 74 = .ok (.iload_n 2, 1) := by decide +kernel
theorem dX3_measureRoads_75 : decode cX3_measureRoads 75 = .ok (.aaload, 1) := by decide +kernel
theorem dX3_measureRoads_76 : decode cX3_measureRoads 76 = .ok (.iload_n 3, 1) := by decide +kernel
theorem dX3_measureRoads_77 : decode cX3_measureRoads 77 = .ok (.iload 4, 2) := by decide +kernel
theorem dX3_measureRoads_79 : decode cX3_measureRoads 79 = .ok (.iastore, 1) := by decide +kernel
theorem dX3_measureRoads_80 : decode cX3_measureRoads 80 = .ok (.aload_n 0, 1) := by decide +kernel
theorem dX3_measureRoads_81 : decode cX3_measureRoads 81 = .ok (.getfield 26, 3) := by decide +kernel
theorem dX3_measureRoads_84 : decode cX3_measureRoads 84 = .ok (.iload_n 3, 1) := by decide +kernel
theorem dX3_measureRoads_85 : decode cX3_measureRoads 85 = .ok (.aaload, 1) := by decide +kernel
theorem dX3_measureRoads_86 : decode cX3_measureRoads 86 = .ok (.iload_n 2, 1) := by decide +kernel
theorem dX3_measureRoads_87 : decode cX3_measureRoads 87 = .ok (.iload 4, 2) := by decide +kernel
theorem dX3_measureRoads_89 : decode cX3_measureRoads 89 = .ok (.iastore, 1) := by decide +kernel
theorem dX3_measureRoads_90 : decode cX3_measureRoads 90 = .ok (.iinc 1 1, 3) := by decide +kernel
theorem dX3_measureRoads_93 : decode cX3_measureRoads 93 = .ok (.goto (-64), 3) := by decide +kernel
theorem dX3_measureRoads_96 : decode cX3_measureRoads 96 = .ok (.return_, 1) := by decide +kernel
theorem dX3_shortenBy_0 : decode cX3_shortenBy 0 = .ok (.aload_n 0, 1) := by decide +kernel
theorem dX3_shortenBy_1 : decode cX3_shortenBy 1 = .ok (.getfield 29, 3) := by decide +kernel
theorem dX3_shortenBy_4 : decode cX3_shortenBy 4 = .ok (.iload_n 1, 1) := by decide +kernel
theorem dX3_shortenBy_5 : decode cX3_shortenBy 5 = .ok (.aaload, 1) := by decide +kernel
theorem dX3_shortenBy_6 : decode cX3_shortenBy 6 = .ok (.iload_n 2, 1) := by decide +kernel
theorem dX3_shortenBy_7 : decode cX3_shortenBy 7 = .ok (.iaload, 1) := by decide +kernel
theorem dX3_shortenBy_8 : decode cX3_shortenBy 8 = .ok (.istore_n 3, 1) := by decide +kernel
theorem dX3_shortenBy_9 : decode cX3_shortenBy 9 = .ok (.iload_n 3, 1) := by decide +kernel
theorem dX3_shortenBy_10 : decode cX3_shortenBy 10 = .ok (.ldc 42, 2) := by decide +kernel
theorem dX3_shortenBy_12 : decode cX3_shortenBy 12 = .ok (.if_icmp .ne 4, 3) := by decide +kernel
theorem dX3_shortenBy_15 : decode cX3_shortenBy 15 = .ok (.return_, 1) := by decide +kernel
theorem dX3_shortenBy_16 : decode cX3_shortenBy 16 = .ok (.iconst 0, 1) := by decide +kernel
theorem dX3_shortenBy_17 : decode cX3_shortenBy 17 = .ok (.istore 4, 2) := by decide +kernel
theorem dX3_shortenBy_19 : decode cX3_shortenBy 19 = .ok (.iload 4, 2) := by decide +kernel
theorem dX3_shortenBy_21 : decode cX3_shortenBy 21 = .ok (.aload_n 0, 1) := by decide +kernel
theorem dX3_shortenBy_22 : decode cX3_shortenBy 22 = .ok (.getfield 32, 3) := by decide +kernel
theorem dX3_shortenBy_25 : decode cX3_shortenBy 25 = .ok (.if_icmp .ge 47, 3) := by decide +kernel
theorem dX3_shortenBy_28 : decode cX3_shortenBy 28 = .ok (.iload_n 3, 1) := by decide +kernel
theorem dX3_shortenBy_29 : decode cX3_shortenBy 29 = .ok (.aload_n 0, 1) := by decide +kernel
theorem dX3_shortenBy_30 : decode cX3_shortenBy 30 = .ok (.getfield 29, 3) := by decide +kernel
theorem dX3_shortenBy_33 : decode cX3_shortenBy 33 = .ok (.iload_n 2, 1) := by decide +kernel
theorem dX3_shortenBy_34 : decode cX3_shortenBy 34 = .ok (.aaload, 1) := by decide +kernel
theorem dX3_shortenBy_35 : decode cX3_shortenBy 35 = .ok (.iload 4, 2) := by decide +kernel
theorem dX3_shortenBy_37 : decode cX3_shortenBy 37 = .ok (.iaload, 1) := by decide +kernel
theorem dX3_shortenBy_38 : decode cX3_shortenBy 38 = .ok (.iadd, 1) := by decide +kernel
theorem dX3_shortenBy_39 : decode cX3_shortenBy 39 = .ok (.istore 5, 2) := by decide +kernel
theorem dX3_shortenBy_41 : decode cX3_shortenBy 41 = .ok (.iload 5, 2) := by decide +kernel
theorem dX3_shortenBy_43 : decode cX3_shortenBy 43 = .ok (.aload_n 0, 1) := by decide +kernel
theorem dX3_shortenBy_44 : decode cX3_shortenBy 44 = .ok (.getfield 29, 3) := by decide +kernel
theorem dX3_shortenBy_47 : decode cX3_shortenBy 47 = .ok (.iload_n 1, 1) := by decide +kernel
theorem dX3_shortenBy_48 : decode cX3_shortenBy 48 = .ok (.aaload, 1) := by decide +kernel
theorem dX3_shortenBy_49 : decode cX3_shortenBy 49 = .ok (.iload 4, 2) := by decide +kernel
theorem dX3_shortenBy_51 : decode cX3_shortenBy 51 = .ok (.iaload, 1) := by decide +kernel
theorem dX3_shortenBy_52 : decode cX3_shortenBy 52 = .ok (.if_icmp .ge 14, 3) := by decide +kernel
theorem dX3_shortenBy_55 : decode cX3_shortenBy 55 = .ok (.aload_n 0, 1) := by decide +kernel
theorem dX3_shortenBy_56 : decode cX3_shortenBy 56 = .ok (.getfield 29, 3) := by decide +kernel
theorem dX3_shortenBy_59 : decode cX3_shortenBy 59 = .ok (.iload_n 1, 1) := by decide +kernel
theorem dX3_shortenBy_60 : decode cX3_shortenBy 60 = .ok (.aaload, 1) := by decide +kernel
theorem dX3_shortenBy_61 : decode cX3_shortenBy 61 = .ok (.iload 4, 2) := by decide +kernel
theorem dX3_shortenBy_63 : decode cX3_shortenBy 63 = .ok (.iload 5, 2) := by decide +kernel
theorem dX3_shortenBy_65 : decode cX3_shortenBy 65 = .ok (.iastore, 1) := by decide +kernel
theorem dX3_shortenBy_66 : decode cX3_shortenBy 66 = .ok (.iinc 4 1, 3) := by decide +kernel
theorem dX3_shortenBy_69 : decode cX3_shortenBy 69 = .ok (.goto (-50), 3) := by decide +kernel
theorem dX3_shortenBy_72 : decode cX3_shortenBy 72 = .ok (.return_, 1) := by decide +kernel
theorem dX4_init_0 : decode cX4_init 0 = .ok (.aload_n 0, 1) := by decide +kernel
theorem dX4_init_1 : decode cX4_init 1 = .ok (.invokespecial 3, 3) := by decide +kernel
theorem dX4_init_4 : decode cX4_init 4 = .ok (.aload_n 0, 1) := by decide +kernel
theorem dX4_init_5 : decode cX4_init 5 = .ok (.new 9, 3) := by decide +kernel
theorem dX4_init_8 : decode cX4_init 8 = .ok (.dup, 1) := by decide +kernel
theorem dX4_init_9 : decode cX4_init 9 = .ok (.invokespecial 11, 3) := by decide +kernel
theorem dX4_init_12 : decode cX4_init 12 = .ok (.putfield 12, 3) := by decide +kernel
theorem dX4_init_15 : decode cX4_init 15 = .ok (.return_, 1) := by decide +kernel
theorem dX4_cheapest_0 : decode cX4_cheapest 0 = .ok (.aload_n 0, 1) := by decide +kernel
theorem dX4_cheapest_1 : decode cX4_cheapest 1 = .ok (.getfield 12, 3) := by decide +kernel
theorem dX4_cheapest_4 : decode cX4_cheapest 4 = .ok (.invokevirtual 18, 3) := by decide +kernel
theorem dX4_cheapest_7 : decode cX4_cheapest 7 = .ok (.aload_n 0, 1) := by decide +kernel
theorem dX4_cheapest_8 : decode cX4_cheapest 8 = .ok (.aload_n 1, 1) := by decide +kernel
theorem dX4_cheapest_9 : decode cX4_cheapest 9 = .ok (.getfield 21, 3) := by decide +kernel
theorem dX4_cheapest_12 : decode cX4_cheapest 12 = .ok (.aload_n 2, 1) := by decide +kernel
theorem dX4_cheapest_13 : decode cX4_cheapest 13 = .ok (.aload_n 3, 1) := by decide +kernel
theorem dX4_cheapest_14 : decode cX4_cheapest 14 = .ok (.invokevirtual 27, 3) := by decide +kernel
theorem dX4_cheapest_17 : decode cX4_cheapest 17 = .ok (.pop, 1) := by decide +kernel
theorem dX4_cheapest_18 : decode cX4_cheapest 18 = .ok (.iconst 0, 1) := by decide +kernel
theorem dX4_cheapest_19 : decode cX4_cheapest 19 = .ok (.istore 5, 2) := by decide +kernel
theorem dX4_cheapest_21 : decode cX4_cheapest 21 = .ok (.iload 5, 2) := by decide +kernel
theorem dX4_cheapest_23 : decode cX4_cheapest 23 = .ok (.aload_n 1, 1) := by decide +kernel
theorem dX4_cheapest_24 : decode cX4_cheapest 24 = .ok (.getfield 21, 3) := by decide +kernel
theorem dX4_cheapest_27 : decode cX4_cheapest 27 = .ok (.if_icmp .ge 72, 3) := by decide +kernel
theorem dX4_cheapest_30 : decode cX4_cheapest 30 = .ok (.iconst 0, 1) := by decide +kernel
theorem dX4_cheapest_31 : decode cX4_cheapest 31 = .ok (.istore 6, 2) := by decide +kernel
theorem dX4_cheapest_33 : decode cX4_cheapest 33 = .ok (.iload 6, 2) := by decide +kernel
theorem dX4_cheapest_35 : decode cX4_cheapest 35 = .ok (.aload_n 1, 1) := by decide +kernel
theorem dX4_cheapest_36 : decode cX4_cheapest 36 = .ok (.getfield 21, 3) := by decide +kernel
theorem dX4_cheapest_39 : decode cX4_cheapest 39 = .ok (.if_icmp .ge 54, 3) := by decide +kernel
theorem dX4_cheapest_42 : decode cX4_cheapest 42 = .ok (.aload_n 2, 1) := by decide +kernel
theorem dX4_cheapest_43 : decode cX4_cheapest 43 = .ok (.iload 5, 2) := by decide +kernel
theorem dX4_cheapest_45 : decode cX4_cheapest 45 = .ok (.iaload, 1) := by decide +kernel
theorem dX4_cheapest_46 : decode cX4_cheapest 46 = .ok (.aload_n 3, 1) := by decide +kernel
theorem dX4_cheapest_47 : decode cX4_cheapest 47 = .ok (.iload 5, 2) := by decide +kernel
theorem dX4_cheapest_49 : decode cX4_cheapest 49 = .ok (.iaload, 1) := by decide +kernel
theorem dX4_cheapest_50 : decode cX4_cheapest 50 = .ok (.if_icmp .le 37, 3) := by decide +kernel
theorem dX4_cheapest_53 : decode cX4_cheapest 53 = .ok (.aload_n 2, 1) := by decide +kernel
theorem dX4_cheapest_54 : decode cX4_cheapest 54 = .ok (.iload 6, 2) := by decide +kernel
theorem dX4_cheapest_56 : decode cX4_cheapest 56 = .ok (.iaload, 1) := by decide +kernel
theorem dX4_cheapest_57 : decode cX4_cheapest 57 = .ok (.aload_n 3, 1) := by decide +kernel
theorem dX4_cheapest_58 : decode cX4_cheapest 58 = .ok (.iload 6, 2) := by decide +kernel
theorem dX4_cheapest_60 : decode cX4_cheapest 60 = .ok (.iaload, 1) := by decide +kernel
theorem dX4_cheapest_61 : decode cX4_cheapest 61 = .ok (.if_icmp .ge 26, 3) := by decide +kernel
theorem dX4_cheapest_64 : decode cX4_cheapest 64 = .ok (.aload_n 0, 1) := by decide +kernel
theorem dX4_cheapest_65 : decode cX4_cheapest 65 = .ok (.getfield 12, 3) := by decide +kernel
theorem dX4_cheapest_68 : decode cX4_cheapest 68 = .ok (.iload 5, 2) := by decide +kernel
theorem dX4_cheapest_70 : decode cX4_cheapest 70 = .ok (.iload 6, 2) := by decide +kernel
theorem dX4_cheapest_72 : decode cX4_cheapest 72 = .ok (.ldc 31, 2) := by decide +kernel
theorem dX4_cheapest_74 : decode cX4_cheapest 74 = .ok (.aload_n 1, 1) := by decide +kernel
theorem dX4_cheapest_75 : decode cX4_cheapest 75 = .ok (.getfield 32, 3) := by decide +kernel
theorem dX4_cheapest_78 : decode cX4_cheapest 78 = .ok (.iload 5, 2) := by decide +kernel
theorem dX4_cheapest_80 : decode cX4_cheapest 80 = .ok (.aaload, 1) := by decide +kernel
theorem dX4_cheapest_81 : decode cX4_cheapest 81 = .ok (.iload 6, 2) := by decide +kernel
theorem dX4_cheapest_83 : decode cX4_cheapest 83 = .ok (.iaload, 1) := by decide +kernel
theorem dX4_cheapest_84 : decode cX4_cheapest 84 = .ok (.invokevirtual 36, 3) := by decide +kernel
theorem dX4_cheapest_87 : decode cX4_cheapest 87 = .ok (.iinc 6 1, 3) := by decide +kernel
theorem dX4_cheapest_90 : decode cX4_cheapest 90 = .ok (.goto (-57), 3) := by decide +kernel
theorem dX4_cheapest_93 : decode cX4_cheapest 93 = .ok (.iinc 5 1, 3) := by decide +kernel
theorem dX4_cheapest_96 : decode cX4_cheapest 96 = .ok (.goto (-75), 3) := by decide +kernel
theorem dX4_cheapest_99 : decode cX4_cheapest 99 = .ok (.aload_n 0, 1) := by decide +kernel
theorem dX4_cheapest_100 : decode cX4_cheapest 100 = .ok (.aload_n 1, 1) := by decide +kernel
theorem dX4_cheapest_101 : decode cX4_cheapest 101 = .ok (.getfield 21, 3) := by decide +kernel
theorem dX4_cheapest_104 : decode cX4_cheapest 104 = .ok (.aload_n 2, 1) := by decide +kernel
theorem dX4_cheapest_105 : decode cX4_cheapest 105 = .ok (.aload_n 3, 1) := by decide +kernel
theorem dX4_cheapest_106 : decode cX4_cheapest 106 = .ok (.invokevirtual 40, 3) := by decide +kernel
theorem dX4_cheapest_109 : decode cX4_cheapest 109 = .ok (.aload_n 0, 1) := by decide +kernel
theorem dX4_cheapest_110 : decode cX4_cheapest 110 = .ok (.getfield 12, 3) := by decide +kernel
theorem dX4_cheapest_113 : decode cX4_cheapest 113 = .ok (.iload 4, 2) := by decide +kernel
theorem dX4_cheapest_115 : decode cX4_cheapest 115 = .ok (.aload_n 1, 1) := by decide +kernel
theorem dX4_cheapest_116 : decode cX4_cheapest 116 = .ok (.getfield 21, 3) := by decide +kernel
theorem dX4_cheapest_119 : decode cX4_cheapest 119 = .ok (.aload_n 2, 1) := by decide +kernel
theorem dX4_cheapest_120 : decode cX4_cheapest 120 = .ok (.aload_n 3, 1) := by decide +kernel
theorem dX4_cheapest_121 : decode cX4_cheapest 121 = .ok (.invokestatic 44, 3) := by decide +kernel
theorem dX4_cheapest_124 : decode cX4_cheapest 124 = .ok (.isub, 1) := by decide +kernel
theorem dX4_cheapest_125 : decode cX4_cheapest 125 = .ok (.invokevirtual 47, 3) := by decide +kernel
theorem dX4_cheapest_128 : decode cX4_cheapest 128 = .ok (.aload_n 0, 1) := by decide +kernel
theorem dX4_cheapest_129 : decode cX4_cheapest 129 = .ok (.getfield 12, 3) := by decide +kernel
theorem dX4_cheapest_132 : decode cX4_cheapest 132 = .ok (.getfield 51, 3) := by decide +kernel
theorem dX4_cheapest_135 : decode cX4_cheapest 135 = .ok (.ireturn, 1) := by decide +kernel
theorem dX4_cheapestThroughGates_0 : decode cX4_cheapestThroughGates 0 = .ok (.aload_n 0, 1) := by decide +kernel
theorem dX4_cheapestThroughGates_1 : decode cX4_cheapestThroughGates 1 = .ok (.getfield 12, 3) := by decide +kernel
theorem dX4_cheapestThroughGates_4 : decode cX4_cheapestThroughGates 4 = .ok (.invokevirtual 18, 3) := by decide +kernel
theorem dX4_cheapestThroughGates_7 : decode cX4_cheapestThroughGates 7 = .ok (.aload_n 0, 1) := by decide +kernel
theorem dX4_cheapestThroughGates_8 : decode cX4_cheapestThroughGates 8 = .ok (.aload_n 1, 1) := by decide +kernel
theorem dX4_cheapestThroughGates_9 : decode cX4_cheapestThroughGates 9 = .ok (.getfield 21, 3) := by decide +kernel
theorem dX4_cheapestThroughGates_12 : decode cX4_cheapestThroughGates 12 = .ok (.aload_n 2, 1) := by decide +kernel
theorem dX4_cheapestThroughGates_13 : decode cX4_cheapestThroughGates 13 = .ok (.aload_n 3, 1) := by decide +kernel
theorem dX4_cheapestThroughGates_14 : decode cX4_cheapestThroughGates 14 = .ok (.invokevirtual 27, 3) := by decide +kernel
theorem dX4_cheapestThroughGates_17 : decode cX4_cheapestThroughGates 17 = .ok (.istore 4, 2) := by decide +kernel
theorem dX4_cheapestThroughGates_19 : decode cX4_cheapestThroughGates 19 = .ok (.iconst 0, 1) := by decide +kernel
theorem dX4_cheapestThroughGates_20 : decode cX4_cheapestThroughGates 20 = .ok (.istore 5, 2) := by decide +kernel
theorem dX4_cheapestThroughGates_22 : decode cX4_cheapestThroughGates 22 = .ok (.iload 5, 2) := by decide +kernel
theorem dX4_cheapestThroughGates_24 : decode cX4_cheapestThroughGates 24 = .ok (.aload_n 1, 1) := by decide +kernel
theorem dX4_cheapestThroughGates_25 : decode cX4_cheapestThroughGates 25 = .ok (.getfield 21, 3) := by decide +kernel
theorem dX4_cheapestThroughGates_28 : decode cX4_cheapestThroughGates 28 = .ok (.if_icmp .ge 105, 3) := by decide +kernel
theorem dX4_cheapestThroughGates_31 : decode cX4_cheapestThroughGates 31 = .ok (.aload_n 1, 1) := by decide +kernel
theorem dX4_cheapestThroughGates_32 : decode cX4_cheapestThroughGates 32 = .ok (.getfield 54, 3) := by decide +kernel
theorem dX4_cheapestThroughGates_35 : decode cX4_cheapestThroughGates 35 = .ok (.iload 5, 2) := by decide +kernel
theorem dX4_cheapestThroughGates_37 : decode cX4_cheapestThroughGates 37 = .ok (.iaload, 1) := by decide +kernel
theorem dX4_cheapestThroughGates_38 : decode cX4_cheapestThroughGates 38 = .ok (.istore 6, 2) := by decide +kernel
theorem dX4_cheapestThroughGates_40 : decode cX4_cheapestThroughGates 40 = .ok (.aload_n 0, 1) := by decide +kernel
theorem dX4_cheapestThroughGates_41 : decode cX4_cheapestThroughGates 41 = .ok (.getfield 12, 3) := by decide +kernel
theorem dX4_cheapestThroughGates_44 : decode cX4_cheapestThroughGates 44 = .ok (.iload 5, 2) := by decide +kernel
theorem dX4_cheapestThroughGates_46 : decode cX4_cheapestThroughGates 46 = .ok (.bipush 10, 2) := by decide +kernel
theorem dX4_cheapestThroughGates_48 : decode cX4_cheapestThroughGates 48 = .ok (.iload 5, 2) := by decide +kernel
theorem dX4_cheapestThroughGates_50 : decode cX4_cheapestThroughGates 50 = .ok (.iadd, 1) := by decide +kernel
theorem dX4_cheapestThroughGates_51 : decode cX4_cheapestThroughGates 51 = .ok (.iload 6, 2) := by decide +kernel
theorem dX4_cheapestThroughGates_53 : decode cX4_cheapestThroughGates 53 = .ok (.iconst (-1), 1) := by decide +kernel
theorem dX4_cheapestThroughGates_54 : decode cX4_cheapestThroughGates 54 = .ok (.if_icmp .ne 8, 3) := by decide +kernel
theorem dX4_cheapestThroughGates_57 : decode cX4_cheapestThroughGates 57 = .ok (.ldc 31, 2) := by decide +kernel
theorem dX4_cheapestThroughGates_59 : decode cX4_cheapestThroughGates 59 = .ok (.goto 5, 3) := by decide +kernel
theorem dX4_cheapestThroughGates_62 : decode cX4_cheapestThroughGates 62 = .ok (.iload 6, 2) := by decide +kernel
theorem dX4_cheapestThroughGates_64 : decode cX4_cheapestThroughGates 64 = .ok (.iconst 0, 1) := by decide +kernel
theorem dX4_cheapestThroughGates_65 : decode cX4_cheapestThroughGates 65 = .ok (.invokevirtual 36, 3) := by decide +kernel
theorem dX4_cheapestThroughGates_68 : decode cX4_cheapestThroughGates 68 = .ok (.iconst 0, 1) := by decide +kernel
theorem dX4_cheapestThroughGates_69 : decode cX4_cheapestThroughGates 69 = .ok (.istore 7, 2) := by decide +kernel
theorem dX4_cheapestThroughGates_71 : decode cX4_cheapestThroughGates 71 = .ok (.iload 7, 2) := by decide +kernel
theorem dX4_cheapestThroughGates_73 : decode cX4_cheapestThroughGates 73 = .ok (.aload_n 1, 1) := by decide +kernel
theorem dX4_cheapestThroughGates_74 : decode cX4_cheapestThroughGates 74 = .ok (.getfield 21, 3) := by decide +kernel
theorem dX4_cheapestThroughGates_77 : decode cX4_cheapestThroughGates 77 = .ok (.if_icmp .ge 50, 3) := by decide +kernel
theorem dX4_cheapestThroughGates_80 : decode cX4_cheapestThroughGates 80 = .ok (.aload_n 1, 1) := by decide +kernel
theorem dX4_cheapestThroughGates_81 : decode cX4_cheapestThroughGates 81 = .ok (.getfield 58, 3) := by decide +kernel
theorem dX4_cheapestThroughGates_84 : decode cX4_cheapestThroughGates 84 = .ok (.iload 5, 2) := by decide +kernel
theorem dX4_cheapestThroughGates_86 : decode cX4_cheapestThroughGates 86 = .ok (.aaload, 1) := by decide +kernel
theorem dX4_cheapestThroughGates_87 : decode cX4_cheapestThroughGates 87 = .ok (.iload 7, 2) := by decide +kernel
theorem dX4_cheapestThroughGates_89 : decode cX4_cheapestThroughGates 89 = .ok (.iaload, 1) := by decide +kernel
theorem dX4_cheapestThroughGates_90 : decode cX4_cheapestThroughGates 90 = .ok (.ldc 31, 2) := by decide +kernel
theorem dX4_cheapestThroughGates_92 : decode cX4_cheapestThroughGates 92 = .ok (.if_icmp .ge 29, 3) := by decide +kernel
theorem dX4_cheapestThroughGates_95 : decode cX4_cheapestThroughGates 95 = .ok (.aload_n 0, 1) := by decide +kernel
theorem dX4_cheapestThroughGates_96 : decode cX4_cheapestThroughGates 96 = .ok (.getfield 12, 3) := by decide +kernel
theorem dX4_cheapestThroughGates_99 : decode cX4_cheapestThroughGates 99 = .ok (.bipush 10, 2) := by decide +kernel
theorem dX4_cheapestThroughGates_101 : decode cX4_cheapestThroughGates 101 = .ok (.iload 5, 2) := by decide +kernel
theorem dX4_cheapestThroughGates_103 : decode cX4_cheapestThroughGates 103 = .ok (.iadd, 1) := by decide +kernel
theorem dX4_cheapestThroughGates_104 : decode cX4_cheapestThroughGates 104 = .ok (.iload 7, 2) := by decide +kernel
theorem dX4_cheapestThroughGates_106 : decode cX4_cheapestThroughGates 106 = .ok (.ldc 31, 2) := by decide +kernel
theorem dX4_cheapestThroughGates_108 : decode cX4_cheapestThroughGates 108 = .ok (.aload_n 1, 1) := by decide +kernel
theorem dX4_cheapestThroughGates_109 : decode cX4_cheapestThroughGates 109 = .ok (.getfield 58, 3) := by decide +kernel
theorem dX4_cheapestThroughGates_112 : decode cX4_cheapestThroughGates 112 = .ok (.iload 5, 2) := by decide +kernel
theorem dX4_cheapestThroughGates_114 : decode cX4_cheapestThroughGates 114 = .ok (.aaload, 1) := by decide +kernel
theorem dX4_cheapestThroughGates_115 : decode cX4_cheapestThroughGates 115 = .ok (.iload 7, 2) := by decide +kernel
theorem dX4_cheapestThroughGates_117 : decode cX4_cheapestThroughGates 117 = .ok (.iaload, 1) := by decide +kernel
theorem dX4_cheapestThroughGates_118 : decode cX4_cheapestThroughGates 118 = .ok (.invokevirtual 36, 3) := by decide +kernel
theorem dX4_cheapestThroughGates_121 : decode cX4_cheapestThroughGates 121 = .ok (.iinc 7 1, 3) := by decide +kernel
theorem dX4_cheapestThroughGates_124 : decode cX4_cheapestThroughGates 124 = .ok (.goto (-53), 3) := by decide +kernel
theorem dX4_cheapestThroughGates_127 : decode cX4_cheapestThroughGates 127 = .ok (.iinc 5 1, 3) := by decide +kernel
theorem dX4_cheapestThroughGates_130 : decode cX4_cheapestThroughGates 130 = .ok (.goto (-108), 3) := by decide +kernel
theorem dX4_cheapestThroughGates_133 : decode cX4_cheapestThroughGates 133 = .ok (.aload_n 0, 1) := by decide +kernel
theorem dX4_cheapestThroughGates_134 : decode cX4_cheapestThroughGates 134 = .ok (.aload_n 1, 1) := by decide +kernel
theorem dX4_cheapestThroughGates_135 : decode cX4_cheapestThroughGates 135 = .ok (.getfield 21, 3) := by decide +kernel
theorem dX4_cheapestThroughGates_138 : decode cX4_cheapestThroughGates 138 = .ok (.aload_n 2, 1) := by decide +kernel
theorem dX4_cheapestThroughGates_139 : decode cX4_cheapestThroughGates 139 = .ok (.aload_n 3, 1) := by decide +kernel
theorem dX4_cheapestThroughGates_140 : decode cX4_cheapestThroughGates 140 = .ok (.invokevirtual 40, 3) := by decide +kernel
theorem dX4_cheapestThroughGates_143 : decode cX4_cheapestThroughGates 143 = .ok (.aload_n 0, 1) := by decide +kernel
theorem dX4_cheapestThroughGates_144 : decode cX4_cheapestThroughGates 144 = .ok (.getfield 12, 3) := by decide +kernel
theorem dX4_cheapestThroughGates_147 : decode cX4_cheapestThroughGates 147 = .ok (.iload 4, 2) := by decide +kernel
theorem dX4_cheapestThroughGates_149 : decode cX4_cheapestThroughGates 149 = .ok (.invokevirtual 47, 3) := by decide +kernel
theorem dX4_cheapestThroughGates_152 : decode cX4_cheapestThroughGates 152 = .ok (.aload_n 0, 1) := by decide +kernel
theorem dX4_cheapestThroughGates_153 : decode cX4_cheapestThroughGates 153 = .ok (.getfield 12, 3) := by decide +kernel
theorem dX4_cheapestThroughGates_156 : decode cX4_cheapestThroughGates 156 = .ok (.getfield 61, 3) := by decide +kernel
theorem dX4_cheapestThroughGates_159 : decode cX4_cheapestThroughGates 159 = .ok (.iload 4, 2) := by decide +kernel
theorem dX4_cheapestThroughGates_161 : decode cX4_cheapestThroughGates 161 = .ok (.if_icmp .ne 13, 3) := by decide +kernel
theorem dX4_cheapestThroughGates_164 : decode cX4_cheapestThroughGates 164 = .ok (.aload_n 0, 1) := by decide +kernel
theorem dX4_cheapestThroughGates_165 : decode cX4_cheapestThroughGates 165 = .ok (.getfield 12, 3) := by decide +kernel
theorem dX4_cheapestThroughGates_168 : decode cX4_cheapestThroughGates 168 = .ok (.getfield 51, 3) := by decide +kernel
theorem dX4_cheapestThroughGates_171 : decode cX4_cheapestThroughGates 171 = .ok (.goto 4, 3) := by decide +kernel
theorem dX4_cheapestThroughGates_174 : decode cX4_cheapestThroughGates 174 = .ok (.iconst (-1), 1) := by decide +kernel
theorem dX4_cheapestThroughGates_175 : decode cX4_cheapestThroughGates 175 = .ok (.ireturn, 1) := by decide +kernel
theorem dX4_joinSource_0 : decode cX4_joinSource 0 = .ok (.iconst 0, 1) := by decide +kernel
theorem dX4_joinSource_1 : decode cX4_joinSource 1 = .ok (.istore 4, 2) := by decide +kernel
theorem dX4_joinSource_3 : decode cX4_joinSource 3 = .ok (.iconst 0, 1) := by decide +kernel
theorem dX4_joinSource_4 : decode cX4_joinSource 4 = .ok (.istore 5, 2) := by decide +kernel
theorem dX4_joinSource_6 : decode cX4_joinSource 6 = .ok (.iload 5, 2) := by decide +kernel
theorem dX4_joinSource_8 : decode cX4_joinSource 8 = .ok (.iload_n 1, 1) := by decide +kernel
theorem dX4_joinSource_9 : decode cX4_joinSource 9 = .ok (.if_icmp .ge 55, 3) := by decide +kernel
theorem dX4_joinSource_12 : decode cX4_joinSource 12 = .ok (.aload_n 2, 1) := by decide +kernel
theorem dX4_joinSource_13 : decode cX4_joinSource 13 = .ok (.iload 5, 2) := by decide +kernel
theorem dX4_joinSource_15 : decode cX4_joinSource 15 = .ok (.iaload, 1) := by decide +kernel
theorem dX4_joinSource_16 : decode cX4_joinSource 16 = .ok (.aload_n 3, 1) := by decide +kernel
theorem dX4_joinSource_17 : decode cX4_joinSource 17 = .ok (.iload 5, 2) := by decide +kernel
theorem dX4_joinSource_19 : decode cX4_joinSource 19 = .ok (.iaload, 1) := by decide +kernel
theorem dX4_joinSource_20 : decode cX4_joinSource 20 = .ok (.if_icmp .le 38, 3) := by decide +kernel
theorem dX4_joinSource_23 : decode cX4_joinSource 23 = .ok (.aload_n 0, 1) := by decide +kernel
theorem dX4_joinSource_24 : decode cX4_joinSource 24 = .ok (.getfield 12, 3) := by decide +kernel
theorem dX4_joinSource_27 : decode cX4_joinSource 27 = .ok (.bipush 20, 2) := by decide +kernel
theorem dX4_joinSource_29 : decode cX4_joinSource 29 = .ok (.iload 5, 2) := by decide +kernel
theorem dX4_joinSource_31 : decode cX4_joinSource 31 = .ok (.aload_n 2, 1) := by decide +kernel
theorem dX4_joinSource_32 : decode cX4_joinSource 32 = .ok (.iload 5, 2) := by decide +kernel
theorem dX4_joinSource_34 : decode cX4_joinSource 34 = .ok (.iaload, 1) := by decide +kernel
theorem dX4_joinSource_35 : decode cX4_joinSource 35 = .ok (.aload_n 3, 1) := by decide +kernel
theorem dX4_joinSource_36 : decode cX4_joinSource 36 = .ok (.iload 5, 2) := by decide +kernel
theorem dX4_joinSource_38 : decode cX4_joinSource 38 = .ok (.iaload, 1) := by decide +kernel
theorem dX4_joinSource_39 : decode cX4_joinSource 39 = .ok (.isub, 1) := by decide +kernel
theorem dX4_joinSource_40 : decode cX4_joinSource 40 = .ok (.iconst 0, 1) := by decide +kernel
theorem dX4_joinSource_41 : decode cX4_joinSource 41 = .ok (.invokevirtual 36, 3) := by decide +kernel
theorem dX4_joinSource_44 : decode cX4_joinSource 44 = .ok (.iload 4, 2) := by decide +kernel
theorem dX4_joinSource_46 : decode cX4_joinSource 46 = .ok (.aload_n 2, 1) := by decide +kernel
theorem dX4_joinSource_47 : decode cX4_joinSource 47 = .ok (.iload 5, 2) := by decide +kernel
theorem dX4_joinSource_49 : decode cX4_joinSource 49 = .ok (.iaload, 1) := by decide +kernel
theorem dX4_joinSource_50 : decode cX4_joinSource 50 = .ok (.aload_n 3, 1) := by decide +kernel
theorem dX4_joinSource_51 : decode cX4_joinSource 51 = .ok (.iload 5, 2) := by decide +kernel
theorem dX4_joinSource_53 : decode cX4_joinSource 53 = .ok (.iaload, 1) := by decide +kernel
theorem dX4_joinSource_54 : decode cX4_joinSource 54 = .ok (.isub, 1) := by decide +kernel
theorem dX4_joinSource_55 : decode cX4_joinSource 55 = .ok (.iadd, 1) := by decide +kernel
theorem dX4_joinSource_56 : decode cX4_joinSource 56 = .ok (.istore 4, 2) := by decide +kernel
theorem dX4_joinSource_58 : decode cX4_joinSource 58 = .ok (.iinc 5 1, 3) := by decide +kernel
theorem dX4_joinSource_61 : decode cX4_joinSource 61 = .ok (.goto (-55), 3) := by decide +kernel
theorem dX4_joinSource_64 : decode cX4_joinSource 64 = .ok (.iload 4, 2) := by decide +kernel
theorem dX4_joinSource_66 : decode cX4_joinSource 66 = .ok (.ireturn, 1) := by decide +kernel
theorem dX4_joinSink_0 : decode cX4_joinSink 0 = .ok (.iconst 0, 1) := by decide +kernel
theorem dX4_joinSink_1 : decode cX4_joinSink 1 = .ok (.istore 4, 2) := by decide +kernel
theorem dX4_joinSink_3 : decode cX4_joinSink 3 = .ok (.iload 4, 2) := by decide +kernel
theorem dX4_joinSink_5 : decode cX4_joinSink 5 = .ok (.iload_n 1, 1) := by decide +kernel
theorem dX4_joinSink_6 : decode cX4_joinSink 6 = .ok (.if_icmp .ge 41, 3) := by decide +kernel
theorem dX4_joinSink_9 : decode cX4_joinSink 9 = .ok (.aload_n 2, 1) := by decide +kernel
theorem dX4_joinSink_10 : decode cX4_joinSink 10 = .ok (.iload 4, 2) := by decide +kernel
theorem dX4_joinSink_12 : decode cX4_joinSink 12 = .ok (.iaload, 1) := by decide +kernel
theorem dX4_joinSink_13 : decode cX4_joinSink 13 = .ok (.aload_n 3, 1) := by decide +kernel
theorem dX4_joinSink_14 : decode cX4_joinSink 14 = .ok (.iload 4, 2) := by decide +kernel
theorem dX4_joinSink_16 : decode cX4_joinSink 16 = .ok (.iaload, 1) := by decide +kernel
theorem dX4_joinSink_17 : decode cX4_joinSink 17 = .ok (.if_icmp .ge 24, 3) := by decide +kernel
theorem dX4_joinSink_20 : decode cX4_joinSink 20 = .ok (.aload_n 0, 1) := by decide +kernel
theorem dX4_joinSink_21 : decode cX4_joinSink 21 = .ok (.getfield 12, 3) := by decide +kernel
theorem dX4_joinSink_24 : decode cX4_joinSink 24 = .ok (.iload 4, 2) := by decide +kernel
theorem dX4_joinSink_26 : decode cX4_joinSink 26 = .ok (.bipush 21, 2) := by decide +kernel
theorem dX4_joinSink_28 : decode cX4_joinSink 28 = .ok (.aload_n 3, 1) := by decide +kernel
theorem dX4_joinSink_29 : decode cX4_joinSink 29 = .ok (.iload 4, 2) := by decide +kernel
theorem dX4_joinSink_31 : decode cX4_joinSink 31 = .ok (.iaload, 1) := by decide +kernel
theorem dX4_joinSink_32 : decode cX4_joinSink 32 = .ok (.aload_n 2, 1) := by decide +kernel
theorem dX4_joinSink_33 : decode cX4_joinSink 33 = .ok (.iload 4, 2) := by decide +kernel
theorem dX4_joinSink_35 : decode cX4_joinSink 35 = .ok (.iaload, 1) := by decide +kernel
theorem dX4_joinSink_36 : decode cX4_joinSink 36 = .ok (.isub, 1) := by decide +kernel
theorem dX4_joinSink_37 : decode cX4_joinSink 37 = .ok (.iconst 0, 1) := by decide +kernel
theorem dX4_joinSink_38 : decode cX4_joinSink 38 = .ok (.invokevirtual 36, 3) := by decide +kernel
theorem dX4_joinSink_41 : decode cX4_joinSink 41 = .ok (.iinc 4 1, 3) := by decide +kernel
theorem dX4_joinSink_44 : decode cX4_joinSink 44 = .ok (.goto (-41), 3) := by decide +kernel
theorem dX4_joinSink_47 : decode cX4_joinSink 47 = .ok (.return_, 1) := by decide +kernel
theorem dX4_staying_0 : decode cX4_staying 0 = .ok (.iconst 0, 1) := by decide +kernel
theorem dX4_staying_1 : decode cX4_staying 1 = .ok (.istore_n 3, 1) := by decide +kernel
theorem dX4_staying_2 : decode cX4_staying 2 = .ok (.iconst 0, 1) := by decide +kernel
theorem dX4_staying_3 : decode cX4_staying 3 = .ok (.istore 4, 2) := by decide +kernel
theorem dX4_staying_5 : decode cX4_staying 5 = .ok (.iload 4, 2) := by decide +kernel
theorem dX4_staying_7 : decode cX4_staying 7 = .ok (.iload_n 0, 1) := by decide +kernel
theorem dX4_staying_8 : decode cX4_staying 8 = .ok (.if_icmp .ge 23, 3) := by decide +kernel
theorem dX4_staying_11 : decode cX4_staying 11 = .ok (.iload_n 3, 1) := by decide +kernel
theorem dX4_staying_12 : decode cX4_staying 12 = .ok (.aload_n 1, 1) := by decide +kernel
theorem dX4_staying_13 : decode cX4_staying 13 = .ok (.iload 4, 2) := by decide +kernel
theorem dX4_staying_15 : decode cX4_staying 15 = .ok (.iaload, 1) := by decide +kernel
theorem dX4_staying_16 : decode cX4_staying 16 = .ok (.aload_n 2, 1) := by decide +kernel
theorem dX4_staying_17 : decode cX4_staying 17 = .ok (.iload 4, 2) := by decide +kernel
theorem dX4_staying_19 : decode cX4_staying 19 = .ok (.iaload, 1) := by decide +kernel
theorem dX4_staying_20 : decode cX4_staying 20 = .ok (.invokestatic 64, 3) := by decide +kernel
theorem dX4_staying_23 : decode cX4_staying 23 = .ok (.iadd, 1) := by decide +kernel
theorem dX4_staying_24 : decode cX4_staying 24 = .ok (.istore_n 3, 1) := by decide +kernel
theorem dX4_staying_25 : decode cX4_staying 25 = .ok (.iinc 4 1, 3) := by decide +kernel
theorem dX4_staying_28 : decode cX4_staying 28 = .ok (.goto (-23), 3) := by decide +kernel
theorem dX4_staying_31 : decode cX4_staying 31 = .ok (.iload_n 3, 1) := by decide +kernel
theorem dX4_staying_32 : decode cX4_staying 32 = .ok (.ireturn, 1) := by decide +kernel
theorem dX5_init_0 : decode cX5_init 0 = .ok (.aload_n 0, 1) := by decide +kernel
theorem dX5_init_1 : decode cX5_init 1 = .ok (.invokespecial 3, 3) := by decide +kernel
theorem dX5_init_4 : decode cX5_init 4 = .ok (.aload_n 0, 1) := by decide +kernel
theorem dX5_init_5 : decode cX5_init 5 = .ok (.sipush 240, 3) := by decide +kernel
theorem dX5_init_8 : decode cX5_init 8 = .ok (.newarray .int, 2) := by decide +kernel
theorem dX5_init_10 : decode cX5_init 10 = .ok (.putfield 9, 3) := by decide +kernel
theorem dX5_init_13 : decode cX5_init 13 = .ok (.aload_n 0, 1) := by decide +kernel
theorem dX5_init_14 : decode cX5_init 14 = .ok (.sipush 240, 3) := by decide +kernel
theorem dX5_init_17 : decode cX5_init 17 = .ok (.newarray .int, 2) := by decide +kernel
theorem dX5_init_19 : decode cX5_init 19 = .ok (.putfield 15, 3) := by decide +kernel
theorem dX5_init_22 : decode cX5_init 22 = .ok (.aload_n 0, 1) := by decide +kernel
theorem dX5_init_23 : decode cX5_init 23 = .ok (.sipush 240, 3) := by decide +kernel
theorem dX5_init_26 : decode cX5_init 26 = .ok (.newarray .int, 2) := by decide +kernel
theorem dX5_init_28 : decode cX5_init 28 = .ok (.putfield 18, 3) := by decide +kernel
theorem dX5_init_31 : decode cX5_init 31 = .ok (.aload_n 0, 1) := by decide +kernel
theorem dX5_init_32 : decode cX5_init 32 = .ok (.sipush 240, 3) := by decide +kernel
theorem dX5_init_35 : decode cX5_init 35 = .ok (.newarray .int, 2) := by decide +kernel
theorem dX5_init_37 : decode cX5_init 37 = .ok (.putfield 21, 3) := by decide +kernel
theorem dX5_init_40 : decode cX5_init 40 = .ok (.aload_n 0, 1) := by decide +kernel
theorem dX5_init_41 : decode cX5_init 41 = .ok (.bipush 22, 2) := by decide +kernel
theorem dX5_init_43 : decode cX5_init 43 = .ok (.newarray .int, 2) := by decide +kernel
theorem dX5_init_45 : decode cX5_init 45 = .ok (.putfield 24, 3) := by decide +kernel
theorem dX5_init_48 : decode cX5_init 48 = .ok (.aload_n 0, 1) := by decide +kernel
theorem dX5_init_49 : decode cX5_init 49 = .ok (.bipush 22, 2) := by decide +kernel
theorem dX5_init_51 : decode cX5_init 51 = .ok (.newarray .int, 2) := by decide +kernel
theorem dX5_init_53 : decode cX5_init 53 = .ok (.putfield 27, 3) := by decide +kernel
theorem dX5_init_56 : decode cX5_init 56 = .ok (.return_, 1) := by decide +kernel
theorem dX5_empty_0 : decode cX5_empty 0 = .ok (.aload_n 0, 1) := by decide +kernel
theorem dX5_empty_1 : decode cX5_empty 1 = .ok (.iconst 0, 1) := by decide +kernel
theorem dX5_empty_2 : decode cX5_empty 2 = .ok (.putfield 30, 3) := by decide +kernel
theorem dX5_empty_5 : decode cX5_empty 5 = .ok (.aload_n 0, 1) := by decide +kernel
theorem dX5_empty_6 : decode cX5_empty 6 = .ok (.iconst 0, 1) := by decide +kernel
theorem dX5_empty_7 : decode cX5_empty 7 = .ok (.putfield 34, 3) := by decide +kernel
theorem dX5_empty_10 : decode cX5_empty 10 = .ok (.aload_n 0, 1) := by decide +kernel
theorem dX5_empty_11 : decode cX5_empty 11 = .ok (.iconst 0, 1) := by decide +kernel
theorem dX5_empty_12 : decode cX5_empty 12 = .ok (.putfield 37, 3) := by decide +kernel
theorem dX5_empty_15 : decode cX5_empty 15 = .ok (.return_, 1) := by decide +kernel
theorem dX5_join_0 : decode cX5_join 0 = .ok (.aload_n 0, 1) := by decide +kernel
theorem dX5_join_1 : decode cX5_join 1 = .ok (.getfield 30, 3) := by decide +kernel
theorem dX5_join_4 : decode cX5_join 4 = .ok (.iconst 2, 1) := by decide +kernel
theorem dX5_join_5 : decode cX5_join 5 = .ok (.iadd, 1) := by decide +kernel
theorem dX5_join_6 : decode cX5_join 6 = .ok (.sipush 240, 3) := by decide +kernel
theorem dX5_join_9 : decode cX5_join 9 = .ok (.if_icmp .le 4, 3) := by decide +kernel
theorem dX5_join_12 : decode cX5_join 12 = .ok (.return_, 1) := by decide +kernel
theorem dX5_join_13 : decode cX5_join 13 = .ok (.aload_n 0, 1) := by decide +kernel
theorem dX5_join_14 : decode cX5_join 14 = .ok (.iload_n 1, 1) := by decide +kernel
theorem dX5_join_15 : decode cX5_join 15 = .ok (.iload_n 2, 1) := by decide +kernel
theorem dX5_join_16 : decode cX5_join 16 = .ok (.iload_n 3, 1) := by decide +kernel
theorem dX5_join_17 : decode cX5_join 17 = .ok (.iload 4, 2) := by decide +kernel
theorem dX5_join_19 : decode cX5_join 19 = .ok (.invokevirtual 40, 3) := by decide +kernel
theorem dX5_join_22 : decode cX5_join 22 = .ok (.aload_n 0, 1) := by decide +kernel
theorem dX5_join_23 : decode cX5_join 23 = .ok (.iload_n 2, 1) := by decide +kernel
theorem dX5_join_24 : decode cX5_join 24 = .ok (.iload_n 1, 1) := by decide +kernel
theorem dX5_join_25 : decode cX5_join 25 = .ok (.iconst 0, 1) := by decide +kernel
theorem dX5_join_26 : decode cX5_join 26 = .ok (.iload 4, 2) := by decide +kernel
theorem dX5_join_28 : decode cX5_join 28 = .ok (.ineg, 1) := by decide +kernel
theorem dX5_join_29 : decode cX5_join 29 = .ok (.invokevirtual 40, 3) := by decide +kernel
theorem dX5_join_32 : decode cX5_join 32 = .ok (.return_, 1) := by decide +kernel
theorem dX5_push_0 : decode cX5_push 0 = .ok (.iconst 0, 1) := by decide +kernel
theorem dX5_push_1 : decode cX5_push 1 = .ok (.istore_n 2, 1) := by decide +kernel
theorem dX5_push_2 : decode cX5_push 2 = .ok (.iload_n 2, 1) := by decide +kernel
theorem dX5_push_3 : decode cX5_push 3 = .ok (.sipush 10000, 3) := by decide +kernel
theorem dX5_push_6 : decode cX5_push 6 = .ok (.if_icmp .ge 34, 3) := by decide +kernel
theorem dX5_push_9 : decode cX5_push 9 = .ok (.aload_n 0, 1) := by decide +kernel
theorem dX5_push_10 : decode cX5_push 10 = .ok (.getfield 34, 3) := by decide +kernel
theorem dX5_push_13 : decode cX5_push 13 = .ok (.iload_n 1, 1) := by decide +kernel
theorem dX5_push_14 : decode cX5_push 14 = .ok (.if_icmp .ge 26, 3) := by decide +kernel
theorem dX5_push_17 : decode cX5_push 17 = .ok (.aload_n 0, 1) := by decide +kernel
theorem dX5_push_18 : decode cX5_push 18 = .ok (.invokevirtual 44, 3) := by decide +kernel
theorem dX5_push_21 : decode cX5_push 21 = .ok (.ifCond .eq 19, 3) := by decide +kernel
theorem dX5_push_24 : decode cX5_push 24 = .ok (.aload_n 0, 1) := by decide +kernel
theorem dX5_push_25 : decode cX5_push 25 = .ok (.iload_n 1, 1) := by decide +kernel
theorem dX5_push_26 : decode cX5_push 26 = .ok (.aload_n 0, 1) := by decide +kernel
theorem dX5_push_27 : decode cX5_push 27 = .ok (.getfield 34, 3) := by decide +kernel
theorem dX5_push_30 : decode cX5_push 30 = .ok (.isub, 1) := by decide +kernel
theorem dX5_push_31 : decode cX5_push 31 = .ok (.invokevirtual 48, 3) := by decide +kernel
theorem dX5_push_34 : decode cX5_push 34 = .ok (.iinc 2 1, 3) := by decide +kernel
theorem dX5_push_37 : decode cX5_push 37 = .ok (.goto (-35), 3) := by decide +kernel
theorem dX5_push_40 : decode cX5_push 40 = .ok (.return_, 1) := by decide +kernel
theorem dX5_isReached_0 : decode cX5_isReached 0 = .ok (.aload_n 0, 1) := by decide +kernel
theorem dX5_isReached_1 : decode cX5_isReached 1 = .ok (.getfield 24, 3) := by decide +kernel
theorem dX5_isReached_4 : decode cX5_isReached 4 = .ok (.iload_n 1, 1) := by decide +kernel
theorem dX5_isReached_5 : decode cX5_isReached 5 = .ok (.iaload, 1) := by decide +kernel
theorem dX5_isReached_6 : decode cX5_isReached 6 = .ok (.ldc 52, 2) := by decide +kernel
theorem dX5_isReached_8 : decode cX5_isReached 8 = .ok (.if_icmp .ge 7, 3) := by decide +kernel
theorem dX5_isReached_11 : decode cX5_isReached 11 = .ok (.iconst 1, 1) := by decide +kernel
theorem dX5_isReached_12 : decode cX5_isReached 12 = .ok (.goto 4, 3) := by decide +kernel
theorem dX5_isReached_15 : decode cX5_isReached 15 = .ok (.iconst 0, 1) := by decide +kernel
theorem dX5_isReached_16 : decode cX5_isReached 16 = .ok (.ireturn, 1) := by decide +kernel
theorem dX5_addArc_0 : decode cX5_addArc 0 = .ok (.aload_n 0, 1) := by decide +kernel
theorem dX5_addArc_1 : decode cX5_addArc 1 = .ok (.getfield 9, 3) := by decide +kernel
theorem dX5_addArc_4 : decode cX5_addArc 4 = .ok (.aload_n 0, 1) := by decide +kernel
theorem dX5_addArc_5 : decode cX5_addArc 5 = .ok (.getfield 30, 3) := by decide +kernel
theorem dX5_addArc_8 : decode cX5_addArc 8 = .ok (.iload_n 1, 1) := by decide +kernel
theorem dX5_addArc_9 : decode cX5_addArc 9 = .ok (.iastore, 1) := by decide +kernel
theorem dX5_addArc_10 : decode cX5_addArc 10 = .ok (.aload_n 0, 1) := by decide +kernel
theorem dX5_addArc_11 : decode cX5_addArc 11 = .ok (.getfield 15, 3) := by decide +kernel
theorem dX5_addArc_14 : decode cX5_addArc 14 = .ok (.aload_n 0, 1) := by decide +kernel
theorem dX5_addArc_15 : decode cX5_addArc 15 = .ok (.getfield 30, 3) := by decide +kernel
theorem dX5_addArc_18 : decode cX5_addArc 18 = .ok (.iload_n 2, 1) := by decide +kernel
theorem dX5_addArc_19 : decode cX5_addArc 19 = .ok (.iastore, 1) := by decide +kernel
theorem dX5_addArc_20 : decode cX5_addArc 20 = .ok (.aload_n 0, 1) := by decide +kernel
theorem dX5_addArc_21 : decode cX5_addArc 21 = .ok (.getfield 18, 3) := by decide +kernel
theorem dX5_addArc_24 : decode cX5_addArc 24 = .ok (.aload_n 0, 1) := by decide +kernel
theorem dX5_addArc_25 : decode cX5_addArc 25 = .ok (.getfield 30, 3) := by decide +kernel
theorem dX5_addArc_28 : decode cX5_addArc 28 = .ok (.iload_n 3, 1) := by decide +kernel
theorem dX5_addArc_29 : decode cX5_addArc 29 = .ok (.iastore, 1) := by decide +kernel
theorem dX5_addArc_30 : decode cX5_addArc 30 = .ok (.aload_n 0, 1) := by decide +kernel
theorem dX5_addArc_31 : decode cX5_addArc 31 = .ok (.getfield 21, 3) := by decide +kernel
theorem dX5_addArc_34 : decode cX5_addArc 34 = .ok (.aload_n 0, 1) := by decide +kernel
theorem dX5_addArc_35 : decode cX5_addArc 35 = .ok (.getfield 30, 3) := by decide +kernel
theorem dX5_addArc_38 : decode cX5_addArc 38 = .ok (.iload 4, 2) := by decide +kernel
theorem dX5_addArc_40 : decode cX5_addArc 40 = .ok (.iastore, 1) := by decide +kernel
theorem dX5_addArc_41 : decode cX5_addArc 41 = .ok (.aload_n 0, 1) := by decide +kernel
theorem dX5_addArc_42 : decode cX5_addArc 42 = .ok (.dup, 1) := by decide +kernel
theorem dX5_addArc_43 : decode cX5_addArc 43 = .ok (.getfield 30, 3) := by decide +kernel
theorem dX5_addArc_46 : decode cX5_addArc 46 = .ok (.iconst 1, 1) := by decide +kernel
theorem dX5_addArc_47 : decode cX5_addArc 47 = .ok (.iadd, 1) := by decide +kernel
theorem dX5_addArc_48 : decode cX5_addArc 48 = .ok (.putfield 30, 3) := by decide +kernel
theorem dX5_addArc_51 : decode cX5_addArc 51 = .ok (.return_, 1) := by decide +kernel
theorem dX5_search_0 : decode cX5_search 0 = .ok (.aload_n 0, 1) := by decide +kernel
theorem dX5_search_1 : decode cX5_search 1 = .ok (.getfield 24, 3) := by decide +kernel
theorem dX5_search_4 : decode cX5_search 4 = .ok (.ldc 52, 2) := by decide +kernel
theorem dX5_search_6 : decode cX5_search 6 = .ok (.invokestatic 53, 3) := by decide +kernel
theorem dX5_search_9 : decode cX5_search 9 = .ok (.aload_n 0, 1) := by decide +kernel
theorem dX5_search_10 : decode cX5_search 10 = .ok (.getfield 27, 3) := by decide +kernel
theorem dX5_search_13 : decode cX5_search 13 = .ok (.iconst (-1), 1) := by decide +kernel
theorem dX5_search_14 : decode cX5_search 14 = .ok (.invokestatic 53, 3) := by decide +kernel
theorem dX5_search_17 : decode cX5_search 17 = .ok (.aload_n 0, 1) := by decide +kernel
theorem dX5_search_18 : decode cX5_search 18 = .ok (.getfield 24, 3) := by decide +kernel
theorem dX5_search_21 : decode cX5_search 21 = .ok (.bipush 20, 2) := by decide +kernel
theorem dX5_search_23 : decode cX5_search 23 = .ok (.iconst 0, 1) := by decide +kernel
theorem dX5_search_24 : decode cX5_search 24 = .ok (.iastore, 1) := by decide +kernel
theorem dX5_search_25 : decode cX5_search 25 = .ok (.iconst 0, 1) := by decide +kernel
theorem dX5_search_26 : decode cX5_search 26 = .ok (.istore_n 1, 1) := by decide +kernel
theorem dX5_search_27 : decode cX5_search 27 = .ok (.iload_n 1, 1) := by decide +kernel
theorem dX5_search_28 : decode cX5_search 28 = .ok (.bipush 22, 2) := by decide +kernel
theorem dX5_search_30 : decode cX5_search 30 = .ok (.if_icmp .ge 19, 3) := by decide +kernel
theorem dX5_search_33 : decode cX5_search 33 = .ok (.aload_n 0, 1) := by decide +kernel
theorem dX5_search_34 : decode cX5_search 34 = .ok (.invokevirtual 59, 3) := by decide +kernel
theorem dX5_search_37 : decode cX5_search 37 = .ok (.ifCond .ne 6, 3) := by decide +kernel
theorem dX5_search_40 : decode cX5_search 40 = .ok (.goto 9, 3) := by decide +kernel
theorem dX5_search_43 : decode cX5_search 43 = .ok (.iinc 1 1, 3) := by decide +kernel
theorem dX5_search_46 : decode cX5_search 46 = .ok (.goto (-19), 3) := by decide +kernel
theorem dX5_search_49 : decode cX5_search 49 = .ok (.aload_n 0, 1) := by decide +kernel
theorem dX5_search_50 : decode cX5_search 50 = .ok (.bipush 21, 2) := by decide +kernel
theorem dX5_search_52 : decode cX5_search 52 = .ok (.invokevirtual 62, 3) := by decide +kernel
theorem dX5_search_55 : decode cX5_search 55 = .ok (.ireturn, 1) := by decide +kernel
theorem dX5_relax_0 : decode cX5_relax 0 = .ok (.iconst 0, 1) := by decide +kernel
theorem dX5_relax_1 : decode cX5_relax 1 = .ok (.istore_n 1, 1) := by decide +kernel
theorem dX5_relax_2 : decode cX5_relax 2 = .ok (.iconst 0, 1) := by decide +kernel
theorem dX5_relax_3 : decode cX5_relax 3 = .ok (.istore_n 2, 1) := by decide +kernel
theorem dX5_relax_4 : decode cX5_relax 4 = .ok (.iload_n 2, 1) := by decide +kernel
theorem dX5_relax_5 : decode cX5_relax 5 = .ok (.aload_n 0, 1) := by decide +kernel
theorem dX5_relax_6 : decode cX5_relax 6 = .ok (.getfield 30, 3) := by decide +kernel
theorem dX5_relax_9 : decode cX5_relax 9 = .ok (.if_icmp .ge 91, 3) := by decide +kernel
theorem dX5_relax_12 : decode cX5_relax 12 = .ok (.aload_n 0, 1) := by decide +kernel
theorem dX5_relax_13 : decode cX5_relax 13 = .ok (.getfield 24, 3) := by decide +kernel
theorem dX5_relax_16 : decode cX5_relax 16 = .ok (.aload_n 0, 1) := by decide +kernel
theorem dX5_relax_17 : decode cX5_relax 17 = .ok (.getfield 9, 3) := by decide +kernel
theorem dX5_relax_20 : decode cX5_relax 20 = .ok (.iload_n 2, 1) := by decide +kernel
theorem dX5_relax_21 : decode cX5_relax 21 = .ok (.iaload, 1) := by decide +kernel
theorem dX5_relax_22 : decode cX5_relax 22 = .ok (.iaload, 1) := by decide +kernel
theorem dX5_relax_23 : decode cX5_relax 23 = .ok (.istore_n 3, 1) := by decide +kernel
theorem dX5_relax_24 : decode cX5_relax 24 = .ok (.aload_n 0, 1) := by decide +kernel
theorem dX5_relax_25 : decode cX5_relax 25 = .ok (.getfield 18, 3) := by decide +kernel
theorem dX5_relax_28 : decode cX5_relax 28 = .ok (.iload_n 2, 1) := by decide +kernel
theorem dX5_relax_29 : decode cX5_relax 29 = .ok (.iaload, 1) := by decide +kernel
theorem dX5_relax_30 : decode cX5_relax 30 = .ok (.ifCond .le 64, 3) := by decide +kernel
theorem dX5_relax_33 : decode cX5_relax 33 = .ok (.iload_n 3, 1) := by decide +kernel
theorem dX5_relax_34 : decode cX5_relax 34 = .ok (.ldc 52, 2) := by decide +kernel
theorem dX5_relax_36 : decode cX5_relax 36 = .ok (.if_icmp .ge 58, 3) := by decide +kernel
theorem dX5_relax_39 : decode cX5_relax 39 = .ok (.iload_n 3, 1) := by decide +kernel
theorem dX5_relax_40 : decode cX5_relax 40 = .ok (.aload_n 0, 1) := by decide +kernel
theorem dX5_relax_41 : decode cX5_relax 41 = .ok (.getfield 21, 3) := by decide +kernel
theorem dX5_relax_44 : decode cX5_relax 44 = .ok (.iload_n 2, 1) := by decide +kernel
theorem dX5_relax_45 : decode cX5_relax 45 = .ok (.iaload, 1) := by decide +kernel
theorem dX5_relax_46 : decode cX5_relax 46 = .ok (.iadd, 1) := by decide +kernel
theorem dX5_relax_47 : decode cX5_relax 47 = .ok (.aload_n 0, 1) := by decide +kernel
theorem dX5_relax_48 : decode cX5_relax 48 = .ok (.getfield 24, 3) := by decide +kernel
theorem dX5_relax_51 : decode cX5_relax 51 = .ok (.aload_n 0, 1) := by decide +kernel
theorem dX5_relax_52 : decode cX5_relax 52 = .ok (.getfield 15, 3) := by decide +kernel
theorem dX5_relax_55 : decode cX5_relax 55 = .ok (.iload_n 2, 1) := by decide +kernel
theorem dX5_relax_56 : decode cX5_relax 56 = .ok (.iaload, 1) := by decide +kernel
theorem dX5_relax_57 : decode cX5_relax 57 = .ok (.iaload, 1) := by decide +kernel
theorem dX5_relax_58 : decode cX5_relax 58 = .ok (.if_icmp .ge 36, 3) := by decide +kernel
theorem dX5_relax_61 : decode cX5_relax 61 = .ok (.aload_n 0, 1) := by decide +kernel
theorem dX5_relax_62 : decode cX5_relax 62 = .ok (.getfield 24, 3) := by decide +kernel
theorem dX5_relax_65 : decode cX5_relax 65 = .ok (.aload_n 0, 1) := by decide +kernel
theorem dX5_relax_66 : decode cX5_relax 66 = .ok (.getfield 15, 3) := by decide +kernel
theorem dX5_relax_69 : decode cX5_relax 69 = .ok (.iload_n 2, 1) := by decide +kernel
theorem dX5_relax_70 : decode cX5_relax 70 = .ok (.iaload, 1) := by decide +kernel
theorem dX5_relax_71 : decode cX5_relax 71 = .ok (.iload_n 3, 1) := by decide +kernel
theorem dX5_relax_72 : decode cX5_relax 72 = .ok (.aload_n 0, 1) := by decide +kernel
theorem dX5_relax_73 : decode cX5_relax 73 = .ok (.getfield 21, 3) := by decide +kernel
theorem dX5_relax_76 : decode cX5_relax 76 = .ok (.iload_n 2, 1) := by decide +kernel
theorem dX5_relax_77 : decode cX5_relax 77 = .ok (.iaload, 1) := by decide +kernel
theorem dX5_relax_78 : decode cX5_relax 78 = .ok (.iadd, 1) := by decide +kernel
theorem dX5_relax_79 : decode cX5_relax 79 = .ok (.iastore, 1) := by decide +kernel
theorem dX5_relax_80 : decode cX5_relax 80 = .ok (.aload_n 0, 1) := by decide +kernel
theorem dX5_relax_81 : decode cX5_relax 81 = .ok (.getfield 27, 3) := by decide +kernel
theorem dX5_relax_84 : decode cX5_relax 84 = .ok (.aload_n 0, 1) := by decide +kernel
theorem dX5_relax_85 : decode cX5_relax 85 = .ok (.getfield 15, 3) := by decide +kernel
theorem dX5_relax_88 : decode cX5_relax 88 = .ok (.iload_n 2, 1) := by decide +kernel
theorem dX5_relax_89 : decode cX5_relax 89 = .ok (.iaload, 1) := by decide +kernel
theorem dX5_relax_90 : decode cX5_relax 90 = .ok (.iload_n 2, 1) := by decide +kernel
theorem dX5_relax_91 : decode cX5_relax 91 = .ok (.iastore, 1) := by decide +kernel
theorem dX5_relax_92 : decode cX5_relax 92 = .ok (.iconst 1, 1) := by decide +kernel
theorem dX5_relax_93 : decode cX5_relax 93 = .ok (.istore_n 1, 1) := by decide +kernel
theorem dX5_relax_94 : decode cX5_relax 94 = .ok (.iinc 2 1, 3) := by decide +kernel
theorem dX5_relax_97 : decode cX5_relax 97 = .ok (.goto (-93), 3) := by decide +kernel
theorem dX5_relax_100 : decode cX5_relax 100 = .ok (.iload_n 1, 1) := by decide +kernel
theorem dX5_relax_101 : decode cX5_relax 101 = .ok (.ireturn, 1) := by decide +kernel
theorem dX5_carry_0 : decode cX5_carry 0 = .ok (.iload_n 1, 1) := by decide +kernel
theorem dX5_carry_1 : decode cX5_carry 1 = .ok (.istore_n 2, 1) := by decide +kernel
theorem dX5_carry_2 : decode cX5_carry 2 = .ok (.aload_n 0, 1) := by decide +kernel
theorem dX5_carry_3 : decode cX5_carry 3 = .ok (.getfield 27, 3) := by decide +kernel
theorem dX5_carry_6 : decode cX5_carry 6 = .ok (.bipush 21, 2) := by decide +kernel
theorem dX5_carry_8 : decode cX5_carry 8 = .ok (.iaload, 1) := by decide +kernel
theorem dX5_carry_9 : decode cX5_carry 9 = .ok (.istore_n 3, 1) := by decide +kernel
theorem dX5_carry_10 : decode cX5_carry 10 = .ok (.iconst 0, 1) := by decide +kernel
theorem dX5_carry_11 : decode cX5_carry 11 = .ok (.istore 4, 2) := by decide +kernel
theorem dX5_carry_13 : decode cX5_carry 13 = .ok (.iload 4, 2) := by decide +kernel
theorem dX5_carry_15 : decode cX5_carry 15 = .ok (.bipush 22, 2) := by decide +kernel
theorem dX5_carry_17 : decode cX5_carry 17 = .ok (.if_icmp .ge 37, 3) := by decide +kernel
theorem dX5_carry_20 : decode cX5_carry 20 = .ok (.iload_n 3, 1) := by decide +kernel
theorem dX5_carry_21 : decode cX5_carry 21 = .ok (.iconst (-1), 1) := by decide +kernel
theorem dX5_carry_22 : decode cX5_carry 22 = .ok (.if_icmp .eq 32, 3) := by decide +kernel
theorem dX5_carry_25 : decode cX5_carry 25 = .ok (.iload_n 2, 1) := by decide +kernel
theorem dX5_carry_26 : decode cX5_carry 26 = .ok (.aload_n 0, 1) := by decide +kernel
theorem dX5_carry_27 : decode cX5_carry 27 = .ok (.getfield 18, 3) := by decide +kernel
theorem dX5_carry_30 : decode cX5_carry 30 = .ok (.iload_n 3, 1) := by decide +kernel
theorem dX5_carry_31 : decode cX5_carry 31 = .ok (.iaload, 1) := by decide +kernel
theorem dX5_carry_32 : decode cX5_carry 32 = .ok (.invokestatic 66, 3) := by decide +kernel
theorem dX5_carry_35 : decode cX5_carry 35 = .ok (.istore_n 2, 1) := by decide +kernel
theorem dX5_carry_36 : decode cX5_carry 36 = .ok (.aload_n 0, 1) := by decide +kernel
theorem dX5_carry_37 : decode cX5_carry 37 = .ok (.getfield 27, 3) := by decide +kernel
theorem dX5_carry_40 : decode cX5_carry 40 = .ok (.aload_n 0, 1) := by decide +kernel
theorem dX5_carry_41 : decode cX5_carry 41 = .ok (.getfield 9, 3) := by decide +kernel
theorem dX5_carry_44 : decode cX5_carry 44 = .ok (.iload_n 3, 1) := by decide +kernel
theorem dX5_carry_45 : decode cX5_carry 45 = .ok (.iaload, 1) := by decide +kernel
theorem dX5_carry_46 : decode cX5_carry 46 = .ok (.iaload, 1) := by decide +kernel
theorem dX5_carry_47 : decode cX5_carry 47 = .ok (.istore_n 3, 1) := by decide +kernel
theorem dX5_carry_48 : decode cX5_carry 48 = .ok (.iinc 4 1, 3) := by decide +kernel
theorem dX5_carry_51 : decode cX5_carry 51 = .ok (.goto (-38), 3) := by decide +kernel
theorem dX5_carry_54 : decode cX5_carry 54 = .ok (.aload_n 0, 1) := by decide +kernel
theorem dX5_carry_55 : decode cX5_carry 55 = .ok (.getfield 27, 3) := by decide +kernel
theorem dX5_carry_58 : decode cX5_carry 58 = .ok (.bipush 21, 2) := by decide +kernel
theorem dX5_carry_60 : decode cX5_carry 60 = .ok (.iaload, 1) := by decide +kernel
theorem dX5_carry_61 : decode cX5_carry 61 = .ok (.istore_n 3, 1) := by decide +kernel
theorem dX5_carry_62 : decode cX5_carry 62 = .ok (.iconst 0, 1) := by decide +kernel
theorem dX5_carry_63 : decode cX5_carry 63 = .ok (.istore 4, 2) := by decide +kernel
theorem dX5_carry_65 : decode cX5_carry 65 = .ok (.iload 4, 2) := by decide +kernel
theorem dX5_carry_67 : decode cX5_carry 67 = .ok (.bipush 22, 2) := by decide +kernel
theorem dX5_carry_69 : decode cX5_carry 69 = .ok (.if_icmp .ge 48, 3) := by decide +kernel
theorem dX5_carry_72 : decode cX5_carry 72 = .ok (.iload_n 3, 1) := by decide +kernel
theorem dX5_carry_73 : decode cX5_carry 73 = .ok (.iconst (-1), 1) := by decide +kernel
theorem dX5_carry_74 : decode cX5_carry 74 = .ok (.if_icmp .eq 43, 3) := by decide +kernel
theorem dX5_carry_77 : decode cX5_carry 77 = .ok (.aload_n 0, 1) := by decide +kernel
theorem dX5_carry_78 : decode cX5_carry 78 = .ok (.getfield 18, 3) := by decide +kernel
theorem dX5_carry_81 : decode cX5_carry 81 = .ok (.iload_n 3, 1) := by decide +kernel
theorem dX5_carry_82 : decode cX5_carry 82 = .ok (.dup2, 1) := by decide +kernel
theorem dX5_carry_83 : decode cX5_carry 83 = .ok (.iaload, 1) := by decide +kernel
theorem dX5_carry_84 : decode cX5_carry 84 = .ok (.iload_n 2, 1) := by decide +kernel
theorem dX5_carry_85 : decode cX5_carry 85 = .ok (.isub, 1) := by decide +kernel
theorem dX5_carry_86 : decode cX5_carry 86 = .ok (.iastore, 1) := by decide +kernel
theorem dX5_carry_87 : decode cX5_carry 87 = .ok (.aload_n 0, 1) := by decide +kernel
theorem dX5_carry_88 : decode cX5_carry 88 = .ok (.getfield 18, 3) := by decide +kernel
theorem dX5_carry_91 : decode cX5_carry 91 = .ok (.iload_n 3, 1) := by decide +kernel
theorem dX5_carry_92 : decode cX5_carry 92 = .ok (.iconst 1, 1) := by decide +kernel
theorem dX5_carry_93 : decode cX5_carry 93 = .ok (.ixor, 1) := by decide +kernel
theorem dX5_carry_94 : decode cX5_carry 94 = .ok (.dup2, 1) := by decide +kernel
theorem dX5_carry_95 : decode cX5_carry 95 = .ok (.iaload, 1) := by decide +kernel
theorem dX5_carry_96 : decode cX5_carry 96 = .ok (.iload_n 2, 1) := by decide +kernel
theorem dX5_carry_97 : decode cX5_carry 97 = .ok (.iadd, 1) := by decide +kernel
theorem dX5_carry_98 : decode cX5_carry 98 = .ok (.iastore, 1) := by decide +kernel
theorem dX5_carry_99 : decode cX5_carry 99 = .ok (.aload_n 0, 1) := by decide +kernel
theorem dX5_carry_100 : decode cX5_carry 100 = .ok (.getfield 27, 3) := by decide +kernel
theorem dX5_carry_103 : decode cX5_carry 103 = .ok (.aload_n 0, 1) := by decide +kernel
theorem dX5_carry_104 : decode cX5_carry 104 = .ok (.getfield 9, 3) := by decide +kernel
theorem dX5_carry_107 : decode cX5_carry 107 = .ok (.iload_n 3, 1) := by decide +kernel
theorem dX5_carry_108 : decode cX5_carry 108 = .ok (.iaload, 1) := by decide +kernel
theorem dX5_carry_109 : decode cX5_carry 109 = .ok (.iaload, 1) := by decide +kernel
theorem dX5_carry_110 : decode cX5_carry 110 = .ok (.istore_n 3, 1) := by decide +kernel
theorem dX5_carry_111 : decode cX5_carry 111 = .ok (.iinc 4 1, 3) := by decide +kernel
theorem dX5_carry_114 : decode cX5_carry 114 = .ok (.goto (-49), 3) := by decide +kernel
theorem dX5_carry_117 : decode cX5_carry 117 = .ok (.aload_n 0, 1) := by decide +kernel
theorem dX5_carry_118 : decode cX5_carry 118 = .ok (.dup, 1) := by decide +kernel
theorem dX5_carry_119 : decode cX5_carry 119 = .ok (.getfield 34, 3) := by decide +kernel
theorem dX5_carry_122 : decode cX5_carry 122 = .ok (.iload_n 2, 1) := by decide +kernel
theorem dX5_carry_123 : decode cX5_carry 123 = .ok (.iadd, 1) := by decide +kernel
theorem dX5_carry_124 : decode cX5_carry 124 = .ok (.putfield 34, 3) := by decide +kernel
theorem dX5_carry_127 : decode cX5_carry 127 = .ok (.aload_n 0, 1) := by decide +kernel
theorem dX5_carry_128 : decode cX5_carry 128 = .ok (.dup, 1) := by decide +kernel
theorem dX5_carry_129 : decode cX5_carry 129 = .ok (.getfield 37, 3) := by decide +kernel
theorem dX5_carry_132 : decode cX5_carry 132 = .ok (.iload_n 2, 1) := by decide +kernel
theorem dX5_carry_133 : decode cX5_carry 133 = .ok (.aload_n 0, 1) := by decide +kernel
theorem dX5_carry_134 : decode cX5_carry 134 = .ok (.getfield 24, 3) := by decide +kernel
theorem dX5_carry_137 : decode cX5_carry 137 = .ok (.bipush 21, 2) := by decide +kernel
theorem dX5_carry_139 : decode cX5_carry 139 = .ok (.iaload, 1) := by decide +kernel
theorem dX5_carry_140 : decode cX5_carry 140 = .ok (.imul, 1) := by decide +kernel
theorem dX5_carry_141 : decode cX5_carry 141 = .ok (.iadd, 1) := by decide +kernel
theorem dX5_carry_142 : decode cX5_carry 142 = .ok (.putfield 37, 3) := by decide +kernel
theorem dX5_carry_145 : decode cX5_carry 145 = .ok (.return_, 1) := by decide +kernel
theorem dX6_init_0 : decode cX6_init 0 = .ok (.aload_n 0, 1) := by decide +kernel
theorem dX6_init_1 : decode cX6_init 1 = .ok (.invokespecial 3, 3) := by decide +kernel
theorem dX6_init_4 : decode cX6_init 4 = .ok (.aload_n 0, 1) := by decide +kernel
theorem dX6_init_5 : decode cX6_init 5 = .ok (.bipush 10, 2) := by decide +kernel
theorem dX6_init_7 : decode cX6_init 7 = .ok (.bipush 10, 2) := by decide +kernel
theorem dX6_init_9 : decode cX6_init 9 = .ok (.multianewarray 9 2, 4) := by decide +kernel
theorem dX6_init_13 : decode cX6_init 13 = .ok (.putfield 11, 3) := by decide +kernel
theorem dX6_init_16 : decode cX6_init 16 = .ok (.aload_n 0, 1) := by decide +kernel
theorem dX6_init_17 : decode cX6_init 17 = .ok (.bipush 10, 2) := by decide +kernel
theorem dX6_init_19 : decode cX6_init 19 = .ok (.newarray .int, 2) := by decide +kernel
theorem dX6_init_21 : decode cX6_init 21 = .ok (.putfield 16, 3) := by decide +kernel
theorem dX6_init_24 : decode cX6_init 24 = .ok (.aload_n 0, 1) := by decide +kernel
theorem dX6_init_25 : decode cX6_init 25 = .ok (.bipush 10, 2) := by decide +kernel
theorem dX6_init_27 : decode cX6_init 27 = .ok (.newarray .int, 2) := by decide +kernel
theorem dX6_init_29 : decode cX6_init 29 = .ok (.putfield 20, 3) := by decide +kernel
theorem dX6_init_32 : decode cX6_init 32 = .ok (.aload_n 0, 1) := by decide +kernel
theorem dX6_init_33 : decode cX6_init 33 = .ok (.bipush 10, 2) := by decide +kernel
theorem dX6_init_35 : decode cX6_init 35 = .ok (.newarray .int, 2) := by decide +kernel
theorem dX6_init_37 : decode cX6_init 37 = .ok (.putfield 23, 3) := by decide +kernel
theorem dX6_init_40 : decode cX6_init 40 = .ok (.aload_n 0, 1) := by decide +kernel
theorem dX6_init_41 : decode cX6_init 41 = .ok (.bipush 10, 2) := by decide +kernel
theorem dX6_init_43 : decode cX6_init 43 = .ok (.newarray .int, 2) := by decide +kernel
theorem dX6_init_45 : decode cX6_init 45 = .ok (.putfield 26, 3) := by decide +kernel
theorem dX6_init_48 : decode cX6_init 48 = .ok (.return_, 1) := by decide +kernel
theorem dX6_make_0 : decode cX6_make 0 = .ok (.aload_n 2, 1) := by decide +kernel
theorem dX6_make_1 : decode cX6_make 1 = .ok (.aload_n 1, 1) := by decide +kernel
theorem dX6_make_2 : decode cX6_make 2 = .ok (.aload_n 3, 1) := by decide +kernel
theorem dX6_make_3 : decode cX6_make 3 = .ok (.aload 4, 2) := by decide +kernel
theorem dX6_make_5 : decode cX6_make 5 = .ok (.iload 5, 2) := by decide +kernel
theorem dX6_make_7 : decode cX6_make 7 = .ok (.invokevirtual 29, 3) := by decide +kernel
theorem dX6_make_10 : decode cX6_make 10 = .ok (.pop, 1) := by decide +kernel
theorem dX6_make_11 : decode cX6_make 11 = .ok (.aload_n 0, 1) := by decide +kernel
theorem dX6_make_12 : decode cX6_make 12 = .ok (.aload_n 1, 1) := by decide +kernel
theorem dX6_make_13 : decode cX6_make 13 = .ok (.getfield 35, 3) := by decide +kernel
theorem dX6_make_16 : decode cX6_make 16 = .ok (.aload_n 2, 1) := by decide +kernel
theorem dX6_make_17 : decode cX6_make 17 = .ok (.getfield 41, 3) := by decide +kernel
theorem dX6_make_20 : decode cX6_make 20 = .ok (.aload_n 3, 1) := by decide +kernel
theorem dX6_make_21 : decode cX6_make 21 = .ok (.aload 4, 2) := by decide +kernel
theorem dX6_make_23 : decode cX6_make 23 = .ok (.invokevirtual 45, 3) := by decide +kernel
theorem dX6_make_26 : decode cX6_make 26 = .ok (.aload_n 0, 1) := by decide +kernel
theorem dX6_make_27 : decode cX6_make 27 = .ok (.aload_n 1, 1) := by decide +kernel
theorem dX6_make_28 : decode cX6_make 28 = .ok (.invokevirtual 49, 3) := by decide +kernel
theorem dX6_make_31 : decode cX6_make 31 = .ok (.aload_n 0, 1) := by decide +kernel
theorem dX6_make_32 : decode cX6_make 32 = .ok (.aload_n 1, 1) := by decide +kernel
theorem dX6_make_33 : decode cX6_make 33 = .ok (.invokevirtual 53, 3) := by decide +kernel
theorem dX6_make_36 : decode cX6_make 36 = .ok (.return_, 1) := by decide +kernel
theorem dX6_isTight_0 : decode cX6_isTight 0 = .ok (.aload_n 0, 1) := by decide +kernel
theorem dX6_isTight_1 : decode cX6_isTight 1 = .ok (.getfield 16, 3) := by decide +kernel
theorem dX6_isTight_4 : decode cX6_isTight 4 = .ok (.iload_n 2, 1) := by decide +kernel
theorem dX6_isTight_5 : decode cX6_isTight 5 = .ok (.iaload, 1) := by decide +kernel
theorem dX6_isTight_6 : decode cX6_isTight 6 = .ok (.aload_n 0, 1) := by decide +kernel
theorem dX6_isTight_7 : decode cX6_isTight 7 = .ok (.getfield 16, 3) := by decide +kernel
theorem dX6_isTight_10 : decode cX6_isTight 10 = .ok (.iload_n 3, 1) := by decide +kernel
theorem dX6_isTight_11 : decode cX6_isTight 11 = .ok (.iaload, 1) := by decide +kernel
theorem dX6_isTight_12 : decode cX6_isTight 12 = .ok (.isub, 1) := by decide +kernel
theorem dX6_isTight_13 : decode cX6_isTight 13 = .ok (.aload_n 1, 1) := by decide +kernel
theorem dX6_isTight_14 : decode cX6_isTight 14 = .ok (.getfield 56, 3) := by decide +kernel
theorem dX6_isTight_17 : decode cX6_isTight 17 = .ok (.iload_n 2, 1) := by decide +kernel
theorem dX6_isTight_18 : decode cX6_isTight 18 = .ok (.aaload, 1) := by decide +kernel
theorem dX6_isTight_19 : decode cX6_isTight 19 = .ok (.iload_n 3, 1) := by decide +kernel
theorem dX6_isTight_20 : decode cX6_isTight 20 = .ok (.iaload, 1) := by decide +kernel
theorem dX6_isTight_21 : decode cX6_isTight 21 = .ok (.if_icmp .ne 7, 3) := by decide +kernel
theorem dX6_isTight_24 : decode cX6_isTight 24 = .ok (.iconst 1, 1) := by decide +kernel
theorem dX6_isTight_25 : decode cX6_isTight 25 = .ok (.goto 4, 3) := by decide +kernel
theorem dX6_isTight_28 : decode cX6_isTight 28 = .ok (.iconst 0, 1) := by decide +kernel
theorem dX6_isTight_29 : decode cX6_isTight 29 = .ok (.ireturn, 1) := by decide +kernel
theorem dX6_takeGoods_0 : decode cX6_takeGoods 0 = .ok (.iconst 0, 1) := by decide +kernel
theorem dX6_takeGoods_1 : decode cX6_takeGoods 1 = .ok (.istore 5, 2) := by decide +kernel
theorem dX6_takeGoods_3 : decode cX6_takeGoods 3 = .ok (.iload 5, 2) := by decide +kernel
theorem dX6_takeGoods_5 : decode cX6_takeGoods 5 = .ok (.iload_n 1, 1) := by decide +kernel
theorem dX6_takeGoods_6 : decode cX6_takeGoods 6 = .ok (.if_icmp .ge 42, 3) := by decide +kernel
theorem dX6_takeGoods_9 : decode cX6_takeGoods 9 = .ok (.aload_n 0, 1) := by decide +kernel
theorem dX6_takeGoods_10 : decode cX6_takeGoods 10 = .ok (.getfield 11, 3) := by decide +kernel
theorem dX6_takeGoods_13 : decode cX6_takeGoods 13 = .ok (.iload 5, 2) := by decide +kernel
theorem dX6_takeGoods_15 : decode cX6_takeGoods 15 = .ok (.aaload, 1) := by decide +kernel
theorem dX6_takeGoods_16 : decode cX6_takeGoods 16 = .ok (.iconst 0, 1) := by decide +kernel
theorem dX6_takeGoods_17 : decode cX6_takeGoods 17 = .ok (.invokestatic 59, 3) := by decide +kernel
theorem dX6_takeGoods_20 : decode cX6_takeGoods 20 = .ok (.aload_n 0, 1) := by decide +kernel
theorem dX6_takeGoods_21 : decode cX6_takeGoods 21 = .ok (.getfield 11, 3) := by decide +kernel
theorem dX6_takeGoods_24 : decode cX6_takeGoods 24 = .ok (.iload 5, 2) := by decide +kernel
theorem dX6_takeGoods_26 : decode cX6_takeGoods 26 = .ok (.aaload, 1) := by decide +kernel
theorem dX6_takeGoods_27 : decode cX6_takeGoods 27 = .ok (.iload 5, 2) := by decide +kernel
theorem dX6_takeGoods_29 : decode cX6_takeGoods 29 = .ok (.aload_n 3, 1) := by decide +kernel
theorem dX6_takeGoods_30 : decode cX6_takeGoods 30 = .ok (.iload 5, 2) := by decide +kernel
theorem dX6_takeGoods_32 : decode cX6_takeGoods 32 = .ok (.iaload, 1) := by decide +kernel
theorem dX6_takeGoods_33 : decode cX6_takeGoods 33 = .ok (.aload 4, 2) := by decide +kernel
theorem dX6_takeGoods_35 : decode cX6_takeGoods 35 = .ok (.iload 5, 2) := by decide +kernel
theorem dX6_takeGoods_37 : decode cX6_takeGoods 37 = .ok (.iaload, 1) := by decide +kernel
theorem dX6_takeGoods_38 : decode cX6_takeGoods 38 = .ok (.invokestatic 65, 3) := by decide +kernel
theorem dX6_takeGoods_41 : decode cX6_takeGoods 41 = .ok (.iastore, 1) := by decide +kernel
theorem dX6_takeGoods_42 : decode cX6_takeGoods 42 = .ok (.iinc 5 1, 3) := by decide +kernel
theorem dX6_takeGoods_45 : decode cX6_takeGoods 45 = .ok (.goto (-42), 3) := by decide +kernel
theorem dX6_takeGoods_48 : decode cX6_takeGoods 48 = .ok (.iconst 0, 1) := by decide +kernel
theorem dX6_takeGoods_49 : decode cX6_takeGoods 49 = .ok (.istore 5, 2) := by decide +kernel
theorem dX6_takeGoods_51 : decode cX6_takeGoods 51 = .ok (.iload 5, 2) := by decide +kernel
theorem dX6_takeGoods_53 : decode cX6_takeGoods 53 = .ok (.iconst 1, 1) := by decide +kernel
theorem dX6_takeGoods_54 : decode cX6_takeGoods 54 = .ok (.iadd, 1) := by decide +kernel
theorem dX6_takeGoods_55 : decode cX6_takeGoods 55 = .ok (.aload_n 2, 1) := by decide +kernel
theorem dX6_takeGoods_56 : decode cX6_takeGoods 56 = .ok (.getfield 71, 3) := by decide +kernel
theorem dX6_takeGoods_59 : decode cX6_takeGoods 59 = .ok (.if_icmp .ge 58, 3) := by decide +kernel
theorem dX6_takeGoods_62 : decode cX6_takeGoods 62 = .ok (.aload_n 2, 1) := by decide +kernel
theorem dX6_takeGoods_63 : decode cX6_takeGoods 63 = .ok (.getfield 76, 3) := by decide +kernel
theorem dX6_takeGoods_66 : decode cX6_takeGoods 66 = .ok (.iload 5, 2) := by decide +kernel
theorem dX6_takeGoods_68 : decode cX6_takeGoods 68 = .ok (.iaload, 1) := by decide +kernel
theorem dX6_takeGoods_69 : decode cX6_takeGoods 69 = .ok (.istore 6, 2) := by decide +kernel
theorem dX6_takeGoods_71 : decode cX6_takeGoods 71 = .ok (.aload_n 2, 1) := by decide +kernel
theorem dX6_takeGoods_72 : decode cX6_takeGoods 72 = .ok (.getfield 79, 3) := by decide +kernel
theorem dX6_takeGoods_75 : decode cX6_takeGoods 75 = .ok (.iload 5, 2) := by decide +kernel
theorem dX6_takeGoods_77 : decode cX6_takeGoods 77 = .ok (.iaload, 1) := by decide +kernel
theorem dX6_takeGoods_78 : decode cX6_takeGoods 78 = .ok (.istore 7, 2) := by decide +kernel
theorem dX6_takeGoods_80 : decode cX6_takeGoods 80 = .ok (.iload 6, 2) := by decide +kernel
theorem dX6_takeGoods_82 : decode cX6_takeGoods 82 = .ok (.iload_n 1, 1) := by decide +kernel
theorem dX6_takeGoods_83 : decode cX6_takeGoods 83 = .ok (.if_icmp .ge 28, 3) := by decide +kernel
theorem dX6_takeGoods_86 : decode cX6_takeGoods 86 = .ok (.iload 7, 2) := by decide +kernel
theorem dX6_takeGoods_88 : decode cX6_takeGoods 88 = .ok (.iload_n 1, 1) := by decide +kernel
theorem dX6_takeGoods_89 : decode cX6_takeGoods 89 = .ok (.if_icmp .ge 22, 3) := by decide +kernel
theorem dX6_takeGoods_92 : decode cX6_takeGoods 92 = .ok (.aload_n 0, 1) := by decide +kernel
theorem dX6_takeGoods_93 : decode cX6_takeGoods 93 = .ok (.getfield 11, 3) := by decide +kernel
theorem dX6_takeGoods_96 : decode cX6_takeGoods 96 = .ok (.iload 6, 2) := by decide +kernel
theorem dX6_takeGoods_98 : decode cX6_takeGoods 98 = .ok (.aaload, 1) := by decide +kernel
theorem dX6_takeGoods_99 : decode cX6_takeGoods 99 = .ok (.iload 7, 2) := by decide +kernel
theorem dX6_takeGoods_101 : decode cX6_takeGoods 101 = .ok (.aload_n 2, 1) := by decide +kernel
theorem dX6_takeGoods_102 : decode cX6_takeGoods 102 = .ok (.getfield 82, 3) := by decide +kernel
theorem dX6_takeGoods_105 : decode cX6_takeGoods 105 = .ok (.iload 5, 2) := by decide +kernel
theorem dX6_takeGoods_107 : decode cX6_takeGoods 107 = .ok (.iconst 1, 1) := by decide +kernel
theorem dX6_takeGoods_108 : decode cX6_takeGoods 108 = .ok (.iadd, 1) := by decide +kernel
theorem dX6_takeGoods_109 : decode cX6_takeGoods 109 = .ok (.iaload, 1) := by decide +kernel
theorem dX6_takeGoods_110 : decode cX6_takeGoods 110 = .ok (.iastore, 1) := by decide +kernel
theorem dX6_takeGoods_111 : decode cX6_takeGoods 111 = .ok (.iinc 5 2, 3) := by decide +kernel
theorem dX6_takeGoods_114 : decode cX6_takeGoods 114 = .ok (.goto (-63), 3) := by decide +kernel
theorem dX6_takeGoods_117 : decode cX6_takeGoods 117 = .ok (.return_, 1) := by decide +kernel
theorem dX6_raiseHeights_0 : decode cX6_raiseHeights 0 = .ok (.iconst 0, 1) := by decide +kernel
theorem dX6_raiseHeights_1 : decode cX6_raiseHeights 1 = .ok (.istore_n 2, 1) := by decide +kernel
theorem dX6_raiseHeights_2 : decode cX6_raiseHeights 2 = .ok (.iload_n 2, 1) := by decide +kernel
theorem dX6_raiseHeights_3 : decode cX6_raiseHeights 3 = .ok (.aload_n 1, 1) := by decide +kernel
theorem dX6_raiseHeights_4 : decode cX6_raiseHeights 4 = .ok (.getfield 35, 3) := by decide +kernel
theorem dX6_raiseHeights_7 : decode cX6_raiseHeights 7 = .ok (.if_icmp .ge 23, 3) := by decide +kernel
theorem dX6_raiseHeights_10 : decode cX6_raiseHeights 10 = .ok (.aload_n 0, 1) := by decide +kernel
theorem dX6_raiseHeights_11 : decode cX6_raiseHeights 11 = .ok (.getfield 16, 3) := by decide +kernel
theorem dX6_raiseHeights_14 : decode cX6_raiseHeights 14 = .ok (.iload_n 2, 1) := by decide +kernel
theorem dX6_raiseHeights_15 : decode cX6_raiseHeights 15 = .ok (.aload_n 1, 1) := by decide +kernel
theorem dX6_raiseHeights_16 : decode cX6_raiseHeights 16 = .ok (.getfield 56, 3) := by decide +kernel
theorem dX6_raiseHeights_19 : decode cX6_raiseHeights 19 = .ok (.iload_n 2, 1) := by decide +kernel
theorem dX6_raiseHeights_20 : decode cX6_raiseHeights 20 = .ok (.aaload, 1) := by decide +kernel
theorem dX6_raiseHeights_21 : decode cX6_raiseHeights 21 = .ok (.iconst 0, 1) := by decide +kernel
theorem dX6_raiseHeights_22 : decode cX6_raiseHeights 22 = .ok (.iaload, 1) := by decide +kernel
theorem dX6_raiseHeights_23 : decode cX6_raiseHeights 23 = .ok (.iastore, 1) := by decide +kernel
theorem dX6_raiseHeights_24 : decode cX6_raiseHeights 24 = .ok (.iinc 2 1, 3) := by decide +kernel
theorem dX6_raiseHeights_27 : decode cX6_raiseHeights 27 = .ok (.goto (-25), 3) := by decide +kernel
theorem dX6_raiseHeights_30 : decode cX6_raiseHeights 30 = .ok (.iconst 0, 1) := by decide +kernel
theorem dX6_raiseHeights_31 : decode cX6_raiseHeights 31 = .ok (.istore_n 2, 1) := by decide +kernel
theorem dX6_raiseHeights_32 : decode cX6_raiseHeights 32 = .ok (.iload_n 2, 1) := by decide +kernel
theorem dX6_raiseHeights_33 : decode cX6_raiseHeights 33 = .ok (.aload_n 1, 1) := by decide +kernel
theorem dX6_raiseHeights_34 : decode cX6_raiseHeights 34 = .ok (.getfield 35, 3) := by decide +kernel
theorem dX6_raiseHeights_37 : decode cX6_raiseHeights 37 = .ok (.if_icmp .ge 20, 3) := by decide +kernel
theorem dX6_raiseHeights_40 : decode cX6_raiseHeights 40 = .ok (.aload_n 0, 1) := by decide +kernel
theorem dX6_raiseHeights_41 : decode cX6_raiseHeights 41 = .ok (.aload_n 1, 1) := by decide +kernel
theorem dX6_raiseHeights_42 : decode cX6_raiseHeights 42 = .ok (.invokevirtual 85, 3) := by decide +kernel
theorem dX6_raiseHeights_45 : decode cX6_raiseHeights 45 = .ok (.ifCond .ne 6, 3) := by decide +kernel
theorem dX6_raiseHeights_48 : decode cX6_raiseHeights 48 = .ok (.goto 9, 3) := by decide +kernel
theorem dX6_raiseHeights_51 : decode cX6_raiseHeights 51 = .ok (.iinc 2 1, 3) := by decide +kernel
theorem dX6_raiseHeights_54 : decode cX6_raiseHeights 54 = .ok (.goto (-22), 3) := by decide +kernel
theorem dX6_raiseHeights_57 : decode cX6_raiseHeights 57 = .ok (.return_, 1) := by decide +kernel
theorem dX6_lowerHeights_0 : decode cX6_lowerHeights 0 = .ok (.iconst 0, 1) := by decide +kernel
theorem dX6_lowerHeights_1 : decode cX6_lowerHeights 1 = .ok (.istore_n 2, 1) := by decide +kernel
theorem dX6_lowerHeights_2 : decode cX6_lowerHeights 2 = .ok (.iconst 0, 1) := by decide +kernel
theorem dX6_lowerHeights_3 : decode cX6_lowerHeights 3 = .ok (.istore_n 3, 1) := by decide +kernel
theorem dX6_lowerHeights_4 : decode cX6_lowerHeights 4 = .ok (.iload_n 3, 1) := by decide +kernel
theorem dX6_lowerHeights_5 : decode cX6_lowerHeights 5 = .ok (.aload_n 1, 1) := by decide +kernel
theorem dX6_lowerHeights_6 : decode cX6_lowerHeights 6 = .ok (.getfield 35, 3) := by decide +kernel
theorem dX6_lowerHeights_9 : decode cX6_lowerHeights 9 = .ok (.if_icmp .ge 124, 3) := by decide +kernel
theorem dX6_lowerHeights_12 : decode cX6_lowerHeights 12 = .ok (.iconst 0, 1) := by decide +kernel
theorem dX6_lowerHeights_13 : decode cX6_lowerHeights 13 = .ok (.istore 4, 2) := by decide +kernel
theorem dX6_lowerHeights_15 : decode cX6_lowerHeights 15 = .ok (.iload 4, 2) := by decide +kernel
theorem dX6_lowerHeights_17 : decode cX6_lowerHeights 17 = .ok (.aload_n 1, 1) := by decide +kernel
theorem dX6_lowerHeights_18 : decode cX6_lowerHeights 18 = .ok (.getfield 35, 3) := by decide +kernel
theorem dX6_lowerHeights_21 : decode cX6_lowerHeights 21 = .ok (.if_icmp .ge 106, 3) := by decide +kernel
theorem dX6_lowerHeights_24 : decode cX6_lowerHeights 24 = .ok (.aload_n 1, 1) := by decide +kernel
theorem dX6_lowerHeights_25 : decode cX6_lowerHeights 25 = .ok (.getfield 56, 3) := by decide +kernel
theorem dX6_lowerHeights_28 : decode cX6_lowerHeights 28 = .ok (.iload_n 3, 1) := by decide +kernel
theorem dX6_lowerHeights_29 : decode cX6_lowerHeights 29 = .ok (.aaload, 1) := by decide +kernel
theorem dX6_lowerHeights_30 : decode cX6_lowerHeights 30 = .ok (.iload 4, 2) := by decide +kernel
theorem dX6_lowerHeights_32 : decode cX6_lowerHeights 32 = .ok (.iaload, 1) := by decide +kernel
theorem dX6_lowerHeights_33 : decode cX6_lowerHeights 33 = .ok (.istore 5, 2) := by decide +kernel
theorem dX6_lowerHeights_35 : decode cX6_lowerHeights 35 = .ok (.aload_n 0, 1) := by decide +kernel
theorem dX6_lowerHeights_36 : decode cX6_lowerHeights 36 = .ok (.getfield 16, 3) := by decide +kernel
theorem dX6_lowerHeights_39 : decode cX6_lowerHeights 39 = .ok (.iload_n 3, 1) := by decide +kernel
theorem dX6_lowerHeights_40 : decode cX6_lowerHeights 40 = .ok (.iaload, 1) := by decide +kernel
theorem dX6_lowerHeights_41 : decode cX6_lowerHeights 41 = .ok (.aload_n 0, 1) := by decide +kernel
theorem dX6_lowerHeights_42 : decode cX6_lowerHeights 42 = .ok (.getfield 16, 3) := by decide +kernel
theorem dX6_lowerHeights_45 : decode cX6_lowerHeights 45 = .ok (.iload 4, 2) := by decide +kernel
theorem dX6_lowerHeights_47 : decode cX6_lowerHeights 47 = .ok (.iaload, 1) := by decide +kernel
theorem dX6_lowerHeights_48 : decode cX6_lowerHeights 48 = .ok (.iload 5, 2) := by decide +kernel
theorem dX6_lowerHeights_50 : decode cX6_lowerHeights 50 = .ok (.iadd, 1) := by decide +kernel
theorem dX6_lowerHeights_51 : decode cX6_lowerHeights 51 = .ok (.if_icmp .le 21, 3) := by decide +kernel
theorem dX6_lowerHeights_54 : decode cX6_lowerHeights 54 = .ok (.aload_n 0, 1) := by decide +kernel
theorem dX6_lowerHeights_55 : decode cX6_lowerHeights 55 = .ok (.getfield 16, 3) := by decide +kernel
theorem dX6_lowerHeights_58 : decode cX6_lowerHeights 58 = .ok (.iload_n 3, 1) := by decide +kernel
theorem dX6_lowerHeights_59 : decode cX6_lowerHeights 59 = .ok (.aload_n 0, 1) := by decide +kernel
theorem dX6_lowerHeights_60 : decode cX6_lowerHeights 60 = .ok (.getfield 16, 3) := by decide +kernel
theorem dX6_lowerHeights_63 : decode cX6_lowerHeights 63 = .ok (.iload 4, 2) := by decide +kernel
theorem dX6_lowerHeights_65 : decode cX6_lowerHeights 65 = .ok (.iaload, 1) := by decide +kernel
theorem dX6_lowerHeights_66 : decode cX6_lowerHeights 66 = .ok (.iload 5, 2) := by decide +kernel
theorem dX6_lowerHeights_68 : decode cX6_lowerHeights 68 = .ok (.iadd, 1) := by decide +kernel
theorem dX6_lowerHeights_69 : decode cX6_lowerHeights 69 = .ok (.iastore, 1) := by decide +kernel
theorem dX6_lowerHeights_70 : decode cX6_lowerHeights 70 = .ok (.iconst 1, 1) := by decide +kernel
theorem dX6_lowerHeights_71 : decode cX6_lowerHeights 71 = .ok (.istore_n 2, 1) := by decide +kernel
theorem dX6_lowerHeights_72 : decode cX6_lowerHeights 72 = .ok (.aload_n 0, 1) := by decide +kernel
theorem dX6_lowerHeights_73 : decode cX6_lowerHeights 73 = .ok (.getfield 11, 3) := by decide +kernel
theorem dX6_lowerHeights_76 : decode cX6_lowerHeights 76 = .ok (.iload_n 3, 1) := by decide +kernel
theorem dX6_lowerHeights_77 : decode cX6_lowerHeights 77 = .ok (.aaload, 1) := by decide +kernel
theorem dX6_lowerHeights_78 : decode cX6_lowerHeights 78 = .ok (.iload 4, 2) := by decide +kernel
theorem dX6_lowerHeights_80 : decode cX6_lowerHeights 80 = .ok (.iaload, 1) := by decide +kernel
theorem dX6_lowerHeights_81 : decode cX6_lowerHeights 81 = .ok (.ifCond .le 40, 3) := by decide +kernel
theorem dX6_lowerHeights_84 : decode cX6_lowerHeights 84 = .ok (.aload_n 0, 1) := by decide +kernel
theorem dX6_lowerHeights_85 : decode cX6_lowerHeights 85 = .ok (.getfield 16, 3) := by decide +kernel
theorem dX6_lowerHeights_88 : decode cX6_lowerHeights 88 = .ok (.iload 4, 2) := by decide +kernel
theorem dX6_lowerHeights_90 : decode cX6_lowerHeights 90 = .ok (.iaload, 1) := by decide +kernel
theorem dX6_lowerHeights_91 : decode cX6_lowerHeights 91 = .ok (.aload_n 0, 1) := by decide +kernel
theorem dX6_lowerHeights_92 : decode cX6_lowerHeights 92 = .ok (.getfield 16, 3) := by decide +kernel
theorem dX6_lowerHeights_95 : decode cX6_lowerHeights 95 = .ok (.iload_n 3, 1) := by decide +kernel
theorem dX6_lowerHeights_96 : decode cX6_lowerHeights 96 = .ok (.iaload, 1) := by decide +kernel
theorem dX6_lowerHeights_97 : decode cX6_lowerHeights 97 = .ok (.iload 5, 2) := by decide +kernel
theorem dX6_lowerHeights_99 : decode cX6_lowerHeights 99 = .ok (.isub, 1) := by decide +kernel
theorem dX6_lowerHeights_100 : decode cX6_lowerHeights 100 = .ok (.if_icmp .le 21, 3) := by decide +kernel
theorem dX6_lowerHeights_103 : decode cX6_lowerHeights 103 = .ok (.aload_n 0, 1) := by decide +kernel
theorem dX6_lowerHeights_104 : decode cX6_lowerHeights 104 = .ok (.getfield 16, 3) := by decide +kernel
theorem dX6_lowerHeights_107 : decode cX6_lowerHeights 107 = .ok (.iload 4, 2) := by decide +kernel
theorem dX6_lowerHeights_109 : decode cX6_lowerHeights 109 = .ok (.aload_n 0, 1) := by decide +kernel
theorem dX6_lowerHeights_110 : decode cX6_lowerHeights 110 = .ok (.getfield 16, 3) := by decide +kernel
theorem dX6_lowerHeights_113 : decode cX6_lowerHeights 113 = .ok (.iload_n 3, 1) := by decide +kernel
theorem dX6_lowerHeights_114 : decode cX6_lowerHeights 114 = .ok (.iaload, 1) := by decide +kernel
theorem dX6_lowerHeights_115 : decode cX6_lowerHeights 115 = .ok (.iload 5, 2) := by decide +kernel
theorem dX6_lowerHeights_117 : decode cX6_lowerHeights 117 = .ok (.isub, 1) := by decide +kernel
theorem dX6_lowerHeights_118 : decode cX6_lowerHeights 118 = .ok (.iastore, 1) := by decide +kernel
theorem dX6_lowerHeights_119 : decode cX6_lowerHeights 119 = .ok (.iconst 1, 1) := by decide +kernel
theorem dX6_lowerHeights_120 : decode cX6_lowerHeights 120 = .ok (.istore_n 2, 1) := by decide +kernel
theorem dX6_lowerHeights_121 : decode cX6_lowerHeights 121 = .ok (.iinc 4 1, 3) := by decide +kernel
theorem dX6_lowerHeights_124 : decode cX6_lowerHeights 124 = .ok (.goto (-109), 3) := by decide +kernel
theorem dX6_lowerHeights_127 : decode cX6_lowerHeights 127 = .ok (.iinc 3 1, 3) := by decide +kernel
theorem dX6_lowerHeights_130 : decode cX6_lowerHeights 130 = .ok (.goto (-126), 3) := by decide +kernel
theorem dX6_lowerHeights_133 : decode cX6_lowerHeights 133 = .ok (.iload_n 2, 1) := by decide +kernel
theorem dX6_lowerHeights_134 : decode cX6_lowerHeights 134 = .ok (.ireturn, 1) := by decide +kernel
theorem dX6_putFirst_0 : decode cX6_putFirst 0 = .ok (.iconst 0, 1) := by decide +kernel
theorem dX6_putFirst_1 : decode cX6_putFirst 1 = .ok (.istore_n 2, 1) := by decide +kernel
theorem dX6_putFirst_2 : decode cX6_putFirst 2 = .ok (.iload_n 2, 1) := by decide +kernel
theorem dX6_putFirst_3 : decode cX6_putFirst 3 = .ok (.aload_n 1, 1) := by decide +kernel
theorem dX6_putFirst_4 : decode cX6_putFirst 4 = .ok (.getfield 35, 3) := by decide +kernel
theorem dX6_putFirst_7 : decode cX6_putFirst 7 = .ok (.if_icmp .ge 79, 3) := by decide +kernel
theorem dX6_putFirst_10 : decode cX6_putFirst 10 = .ok (.iconst 0, 1) := by decide +kernel
theorem dX6_putFirst_11 : decode cX6_putFirst 11 = .ok (.istore_n 3, 1) := by decide +kernel
theorem dX6_putFirst_12 : decode cX6_putFirst 12 = .ok (.iload_n 3, 1) := by decide +kernel
theorem dX6_putFirst_13 : decode cX6_putFirst 13 = .ok (.aload_n 1, 1) := by decide +kernel
theorem dX6_putFirst_14 : decode cX6_putFirst 14 = .ok (.getfield 35, 3) := by decide +kernel
theorem dX6_putFirst_17 : decode cX6_putFirst 17 = .ok (.if_icmp .ge 63, 3) := by decide +kernel
theorem dX6_putFirst_20 : decode cX6_putFirst 20 = .ok (.aload_n 0, 1) := by decide +kernel
theorem dX6_putFirst_21 : decode cX6_putFirst 21 = .ok (.aload_n 1, 1) := by decide +kernel
theorem dX6_putFirst_22 : decode cX6_putFirst 22 = .ok (.iload_n 2, 1) := by decide +kernel
theorem dX6_putFirst_23 : decode cX6_putFirst 23 = .ok (.iload_n 3, 1) := by decide +kernel
theorem dX6_putFirst_24 : decode cX6_putFirst 24 = .ok (.invokevirtual 89, 3) := by decide +kernel
theorem dX6_putFirst_27 : decode cX6_putFirst 27 = .ok (.ifCond .eq 47, 3) := by decide +kernel
theorem dX6_putFirst_30 : decode cX6_putFirst 30 = .ok (.iload_n 2, 1) := by decide +kernel
theorem dX6_putFirst_31 : decode cX6_putFirst 31 = .ok (.iload_n 3, 1) := by decide +kernel
theorem dX6_putFirst_32 : decode cX6_putFirst 32 = .ok (.invokestatic 93, 3) := by decide +kernel
theorem dX6_putFirst_35 : decode cX6_putFirst 35 = .ok (.iconst 1, 1) := by decide +kernel
theorem dX6_putFirst_36 : decode cX6_putFirst 36 = .ok (.iadd, 1) := by decide +kernel
theorem dX6_putFirst_37 : decode cX6_putFirst 37 = .ok (.istore 4, 2) := by decide +kernel
theorem dX6_putFirst_39 : decode cX6_putFirst 39 = .ok (.iconst 0, 1) := by decide +kernel
theorem dX6_putFirst_40 : decode cX6_putFirst 40 = .ok (.istore 5, 2) := by decide +kernel
theorem dX6_putFirst_42 : decode cX6_putFirst 42 = .ok (.iload 5, 2) := by decide +kernel
theorem dX6_putFirst_44 : decode cX6_putFirst 44 = .ok (.sipush 1000, 3) := by decide +kernel
theorem dX6_putFirst_47 : decode cX6_putFirst 47 = .ok (.if_icmp .ge 27, 3) := by decide +kernel
theorem dX6_putFirst_50 : decode cX6_putFirst 50 = .ok (.aload_n 0, 1) := by decide +kernel
theorem dX6_putFirst_51 : decode cX6_putFirst 51 = .ok (.aload_n 1, 1) := by decide +kernel
theorem dX6_putFirst_52 : decode cX6_putFirst 52 = .ok (.iload_n 2, 1) := by decide +kernel
theorem dX6_putFirst_53 : decode cX6_putFirst 53 = .ok (.iload_n 3, 1) := by decide +kernel
theorem dX6_putFirst_54 : decode cX6_putFirst 54 = .ok (.iload 4, 2) := by decide +kernel
theorem dX6_putFirst_56 : decode cX6_putFirst 56 = .ok (.invokevirtual 96, 3) := by decide +kernel
theorem dX6_putFirst_59 : decode cX6_putFirst 59 = .ok (.ifCond .eq 15, 3) := by decide +kernel
theorem dX6_putFirst_62 : decode cX6_putFirst 62 = .ok (.aload_n 0, 1) := by decide +kernel
theorem dX6_putFirst_63 : decode cX6_putFirst 63 = .ok (.iload_n 2, 1) := by decide +kernel
theorem dX6_putFirst_64 : decode cX6_putFirst 64 = .ok (.iload_n 3, 1) := by decide +kernel
theorem dX6_putFirst_65 : decode cX6_putFirst 65 = .ok (.invokevirtual 100, 3) := by decide +kernel
theorem dX6_putFirst_68 : decode cX6_putFirst 68 = .ok (.iinc 5 1, 3) := by decide +kernel
theorem dX6_putFirst_71 : decode cX6_putFirst 71 = .ok (.goto (-29), 3) := by decide +kernel
theorem dX6_putFirst_74 : decode cX6_putFirst 74 = .ok (.iinc 3 1, 3) := by decide +kernel
theorem dX6_putFirst_77 : decode cX6_putFirst 77 = .ok (.goto (-65), 3) := by decide +kernel
theorem dX6_putFirst_80 : decode cX6_putFirst 80 = .ok (.iinc 2 1, 3) := by decide +kernel
theorem dX6_putFirst_83 : decode cX6_putFirst 83 = .ok (.goto (-81), 3) := by decide +kernel
theorem dX6_putFirst_86 : decode cX6_putFirst 86 = .ok (.return_, 1) := by decide +kernel
theorem dX6_hasOther_0 : decode cX6_hasOther 0 = .ok (.iconst 0, 1) := by decide +kernel
theorem dX6_hasOther_1 : decode cX6_hasOther 1 = .ok (.istore_n 2, 1) := by decide +kernel
theorem dX6_hasOther_2 : decode cX6_hasOther 2 = .ok (.iload_n 2, 1) := by decide +kernel
theorem dX6_hasOther_3 : decode cX6_hasOther 3 = .ok (.aload_n 1, 1) := by decide +kernel
theorem dX6_hasOther_4 : decode cX6_hasOther 4 = .ok (.getfield 35, 3) := by decide +kernel
theorem dX6_hasOther_7 : decode cX6_hasOther 7 = .ok (.if_icmp .ge 48, 3) := by decide +kernel
theorem dX6_hasOther_10 : decode cX6_hasOther 10 = .ok (.iconst 0, 1) := by decide +kernel
theorem dX6_hasOther_11 : decode cX6_hasOther 11 = .ok (.istore_n 3, 1) := by decide +kernel
theorem dX6_hasOther_12 : decode cX6_hasOther 12 = .ok (.iload_n 3, 1) := by decide +kernel
theorem dX6_hasOther_13 : decode cX6_hasOther 13 = .ok (.aload_n 1, 1) := by decide +kernel
theorem dX6_hasOther_14 : decode cX6_hasOther 14 = .ok (.getfield 35, 3) := by decide +kernel
theorem dX6_hasOther_17 : decode cX6_hasOther 17 = .ok (.if_icmp .ge 32, 3) := by decide +kernel
theorem dX6_hasOther_20 : decode cX6_hasOther 20 = .ok (.aload_n 0, 1) := by decide +kernel
theorem dX6_hasOther_21 : decode cX6_hasOther 21 = .ok (.aload_n 1, 1) := by decide +kernel
theorem dX6_hasOther_22 : decode cX6_hasOther 22 = .ok (.iload_n 2, 1) := by decide +kernel
theorem dX6_hasOther_23 : decode cX6_hasOther 23 = .ok (.iload_n 3, 1) := by decide +kernel
theorem dX6_hasOther_24 : decode cX6_hasOther 24 = .ok (.invokevirtual 89, 3) := by decide +kernel
theorem dX6_hasOther_27 : decode cX6_hasOther 27 = .ok (.ifCond .eq 16, 3) := by decide +kernel
theorem dX6_hasOther_30 : decode cX6_hasOther 30 = .ok (.aload_n 0, 1) := by decide +kernel
theorem dX6_hasOther_31 : decode cX6_hasOther 31 = .ok (.aload_n 1, 1) := by decide +kernel
theorem dX6_hasOther_32 : decode cX6_hasOther 32 = .ok (.iload_n 2, 1) := by decide +kernel
theorem dX6_hasOther_33 : decode cX6_hasOther 33 = .ok (.iload_n 3, 1) := by decide +kernel
theorem dX6_hasOther_34 : decode cX6_hasOther 34 = .ok (.iconst 0, 1) := by decide +kernel
theorem dX6_hasOther_35 : decode cX6_hasOther 35 = .ok (.invokevirtual 96, 3) := by decide +kernel
theorem dX6_hasOther_38 : decode cX6_hasOther 38 = .ok (.ifCond .eq 5, 3) := by decide +kernel
theorem dX6_hasOther_41 : decode cX6_hasOther 41 = .ok (.iconst 1, 1) := by decide +kernel
theorem dX6_hasOther_42 : decode cX6_hasOther 42 = .ok (.ireturn, 1) := by decide +kernel
theorem dX6_hasOther_43 : decode cX6_hasOther 43 = .ok (.iinc 3 1, 3) := by decide +kernel
theorem dX6_hasOther_46 : decode cX6_hasOther 46 = .ok (.goto (-34), 3) := by decide +kernel
theorem dX6_hasOther_49 : decode cX6_hasOther 49 = .ok (.iinc 2 1, 3) := by decide +kernel
theorem dX6_hasOther_52 : decode cX6_hasOther 52 = .ok (.goto (-50), 3) := by decide +kernel
theorem dX6_hasOther_55 : decode cX6_hasOther 55 = .ok (.iconst 0, 1) := by decide +kernel
theorem dX6_hasOther_56 : decode cX6_hasOther 56 = .ok (.ireturn, 1) := by decide +kernel
theorem dX6_cell_0 : decode cX6_cell 0 = .ok (.iload_n 0, 1) := by decide +kernel
theorem dX6_cell_1 : decode cX6_cell 1 = .ok (.bipush 10, 2) := by decide +kernel
theorem dX6_cell_3 : decode cX6_cell 3 = .ok (.imul, 1) := by decide +kernel
theorem dX6_cell_4 : decode cX6_cell 4 = .ok (.iload_n 1, 1) := by decide +kernel
theorem dX6_cell_5 : decode cX6_cell 5 = .ok (.iadd, 1) := by decide +kernel
theorem dX6_cell_6 : decode cX6_cell 6 = .ok (.ireturn, 1) := by decide +kernel
theorem dX6_findRing_0 : decode cX6_findRing 0 = .ok (.aload_n 0, 1) := by decide +kernel
theorem dX6_findRing_1 : decode cX6_findRing 1 = .ok (.getfield 20, 3) := by decide +kernel
theorem dX6_findRing_4 : decode cX6_findRing 4 = .ok (.iconst (-1), 1) := by decide +kernel
theorem dX6_findRing_5 : decode cX6_findRing 5 = .ok (.invokestatic 59, 3) := by decide +kernel
theorem dX6_findRing_8 : decode cX6_findRing 8 = .ok (.aload_n 0, 1) := by decide +kernel
theorem dX6_findRing_9 : decode cX6_findRing 9 = .ok (.getfield 23, 3) := by decide +kernel
theorem dX6_findRing_12 : decode cX6_findRing 12 = .ok (.iconst (-1), 1) := by decide +kernel
theorem dX6_findRing_13 : decode cX6_findRing 13 = .ok (.invokestatic 59, 3) := by decide +kernel
theorem dX6_findRing_16 : decode cX6_findRing 16 = .ok (.aload_n 0, 1) := by decide +kernel
theorem dX6_findRing_17 : decode cX6_findRing 17 = .ok (.getfield 23, 3) := by decide +kernel
theorem dX6_findRing_20 : decode cX6_findRing 20 = .ok (.iload_n 3, 1) := by decide +kernel
theorem dX6_findRing_21 : decode cX6_findRing 21 = .ok (.iload_n 2, 1) := by decide +kernel
theorem dX6_findRing_22 : decode cX6_findRing 22 = .ok (.iastore, 1) := by decide +kernel
theorem dX6_findRing_23 : decode cX6_findRing 23 = .ok (.aload_n 0, 1) := by decide +kernel
theorem dX6_findRing_24 : decode cX6_findRing 24 = .ok (.getfield 26, 3) := by decide +kernel
theorem dX6_findRing_27 : decode cX6_findRing 27 = .ok (.iconst 0, 1) := by decide +kernel
theorem dX6_findRing_28 : decode cX6_findRing 28 = .ok (.iload_n 3, 1) := by decide +kernel
theorem dX6_findRing_29 : decode cX6_findRing 29 = .ok (.iastore, 1) := by decide +kernel
theorem dX6_findRing_30 : decode cX6_findRing 30 = .ok (.iconst 1, 1) := by decide +kernel
theorem dX6_findRing_31 : decode cX6_findRing 31 = .ok (.istore 5, 2) := by decide +kernel
theorem dX6_findRing_33 : decode cX6_findRing 33 = .ok (.iconst 0, 1) := by decide +kernel
theorem dX6_findRing_34 : decode cX6_findRing 34 = .ok (.istore 6, 2) := by decide +kernel
theorem dX6_findRing_36 : decode cX6_findRing 36 = .ok (.iload 6, 2) := by decide +kernel
theorem dX6_findRing_38 : decode cX6_findRing 38 = .ok (.iload 5, 2) := by decide +kernel
theorem dX6_findRing_40 : decode cX6_findRing 40 = .ok (.if_icmp .ge 140, 3) := by decide +kernel
theorem dX6_findRing_43 : decode cX6_findRing 43 = .ok (.iload 6, 2) := by decide +kernel
theorem dX6_findRing_45 : decode cX6_findRing 45 = .ok (.bipush 10, 2) := by decide +kernel
theorem dX6_findRing_47 : decode cX6_findRing 47 = .ok (.if_icmp .ge 133, 3) := by decide +kernel
theorem dX6_findRing_50 : decode cX6_findRing 50 = .ok (.aload_n 0, 1) := by decide +kernel
theorem dX6_findRing_51 : decode cX6_findRing 51 = .ok (.getfield 26, 3) := by decide +kernel
theorem dX6_findRing_54 : decode cX6_findRing 54 = .ok (.iload 6, 2) := by decide +kernel
theorem dX6_findRing_56 : decode cX6_findRing 56 = .ok (.iaload, 1) := by decide +kernel
theorem dX6_findRing_57 : decode cX6_findRing 57 = .ok (.istore 7, 2) := by decide +kernel
theorem dX6_findRing_59 : decode cX6_findRing 59 = .ok (.iconst 0, 1) := by decide +kernel
theorem dX6_findRing_60 : decode cX6_findRing 60 = .ok (.istore 8, 2) := by decide +kernel
theorem dX6_findRing_62 : decode cX6_findRing 62 = .ok (.iload 8, 2) := by decide +kernel
theorem dX6_findRing_64 : decode cX6_findRing 64 = .ok (.aload_n 1, 1) := by decide +kernel
theorem dX6_findRing_65 : decode cX6_findRing 65 = .ok (.getfield 35, 3) := by decide +kernel
theorem dX6_findRing_68 : decode cX6_findRing 68 = .ok (.if_icmp .ge 94, 3) := by decide +kernel
theorem dX6_findRing_71 : decode cX6_findRing 71 = .ok (.iload 8, 2) := by decide +kernel
theorem dX6_findRing_73 : decode cX6_findRing 73 = .ok (.iload 7, 2) := by decide +kernel
theorem dX6_findRing_75 : decode cX6_findRing 75 = .ok (.invokestatic 93, 3) := by decide +kernel
theorem dX6_findRing_78 : decode cX6_findRing 78 = .ok (.iload 4, 2) := by decide +kernel
theorem dX6_findRing_80 : decode cX6_findRing 80 = .ok (.if_icmp .lt 22, 3) := by decide +kernel
theorem dX6_findRing_83 : decode cX6_findRing 83 = .ok (.iload 8, 2) := by decide +kernel
theorem dX6_findRing_85 : decode cX6_findRing 85 = .ok (.iload 7, 2) := by decide +kernel
theorem dX6_findRing_87 : decode cX6_findRing 87 = .ok (.invokestatic 93, 3) := by decide +kernel
theorem dX6_findRing_90 : decode cX6_findRing 90 = .ok (.iload_n 2, 1) := by decide +kernel
theorem dX6_findRing_91 : decode cX6_findRing 91 = .ok (.iload_n 3, 1) := by decide +kernel
theorem dX6_findRing_92 : decode cX6_findRing 92 = .ok (.invokestatic 93, 3) := by decide +kernel
theorem dX6_findRing_95 : decode cX6_findRing 95 = .ok (.if_icmp .eq 7, 3) := by decide +kernel
theorem dX6_findRing_98 : decode cX6_findRing 98 = .ok (.iconst 1, 1) := by decide +kernel
theorem dX6_findRing_99 : decode cX6_findRing 99 = .ok (.goto 4, 3) := by decide +kernel
theorem dX6_findRing_102 : decode cX6_findRing 102 = .ok (.iconst 0, 1) := by decide +kernel
theorem dX6_findRing_103 : decode cX6_findRing 103 = .ok (.istore 9, 2) := by decide +kernel
theorem dX6_findRing_105 : decode cX6_findRing 105 = .ok (.iload 9, 2) := by decide +kernel
theorem dX6_findRing_107 : decode cX6_findRing 107 = .ok (.ifCond .eq 49, 3) := by decide +kernel
theorem dX6_findRing_110 : decode cX6_findRing 110 = .ok (.aload_n 0, 1) := by decide +kernel
theorem dX6_findRing_111 : decode cX6_findRing 111 = .ok (.getfield 20, 3) := by decide +kernel
theorem dX6_findRing_114 : decode cX6_findRing 114 = .ok (.iload 8, 2) := by decide +kernel
theorem dX6_findRing_116 : decode cX6_findRing 116 = .ok (.iaload, 1) := by decide +kernel
theorem dX6_findRing_117 : decode cX6_findRing 117 = .ok (.iconst (-1), 1) := by decide +kernel
theorem dX6_findRing_118 : decode cX6_findRing 118 = .ok (.if_icmp .ne 38, 3) := by decide +kernel
theorem dX6_findRing_121 : decode cX6_findRing 121 = .ok (.aload_n 0, 1) := by decide +kernel
theorem dX6_findRing_122 : decode cX6_findRing 122 = .ok (.getfield 11, 3) := by decide +kernel
theorem dX6_findRing_125 : decode cX6_findRing 125 = .ok (.iload 8, 2) := by decide +kernel
theorem dX6_findRing_127 : decode cX6_findRing 127 = .ok (.aaload, 1) := by decide +kernel
theorem dX6_findRing_128 : decode cX6_findRing 128 = .ok (.iload 7, 2) := by decide +kernel
theorem dX6_findRing_130 : decode cX6_findRing 130 = .ok (.iaload, 1) := by decide +kernel
theorem dX6_findRing_131 : decode cX6_findRing 131 = .ok (.ifCond .le 25, 3) := by decide +kernel
theorem dX6_findRing_134 : decode cX6_findRing 134 = .ok (.aload_n 0, 1) := by decide +kernel
theorem dX6_findRing_135 : decode cX6_findRing 135 = .ok (.getfield 20, 3) := by decide +kernel
theorem dX6_findRing_138 : decode cX6_findRing 138 = .ok (.iload 8, 2) := by decide +kernel
theorem dX6_findRing_140 : decode cX6_findRing 140 = .ok (.iload 7, 2) := by decide +kernel
theorem dX6_findRing_142 : decode cX6_findRing 142 = .ok (.iastore, 1) := by decide +kernel
theorem dX6_findRing_143 : decode cX6_findRing 143 = .ok (.aload_n 0, 1) := by decide +kernel
theorem dX6_findRing_144 : decode cX6_findRing 144 = .ok (.aload_n 1, 1) := by decide +kernel
theorem dX6_findRing_145 : decode cX6_findRing 145 = .ok (.iload 8, 2) := by decide +kernel
theorem dX6_findRing_147 : decode cX6_findRing 147 = .ok (.iload 5, 2) := by decide +kernel
theorem dX6_findRing_149 : decode cX6_findRing 149 = .ok (.iload 4, 2) := by decide +kernel
theorem dX6_findRing_151 : decode cX6_findRing 151 = .ok (.invokevirtual 104, 3) := by decide +kernel
theorem dX6_findRing_154 : decode cX6_findRing 154 = .ok (.istore 5, 2) := by decide +kernel
theorem dX6_findRing_156 : decode cX6_findRing 156 = .ok (.iinc 8 1, 3) := by decide +kernel
theorem dX6_findRing_159 : decode cX6_findRing 159 = .ok (.goto (-97), 3) := by decide +kernel
theorem dX6_findRing_162 : decode cX6_findRing 162 = .ok (.aload_n 0, 1) := by decide +kernel
theorem dX6_findRing_163 : decode cX6_findRing 163 = .ok (.getfield 20, 3) := by decide +kernel
theorem dX6_findRing_166 : decode cX6_findRing 166 = .ok (.iload_n 2, 1) := by decide +kernel
theorem dX6_findRing_167 : decode cX6_findRing 167 = .ok (.iaload, 1) := by decide +kernel
theorem dX6_findRing_168 : decode cX6_findRing 168 = .ok (.iconst (-1), 1) := by decide +kernel
theorem dX6_findRing_169 : decode cX6_findRing 169 = .ok (.if_icmp .eq 5, 3) := by decide +kernel
theorem dX6_findRing_172 : decode cX6_findRing 172 = .ok (.iconst 1, 1) := by decide +kernel
theorem dX6_findRing_173 : decode cX6_findRing 173 = .ok (.ireturn, 1) := by decide +kernel
theorem dX6_findRing_174 : decode cX6_findRing 174 = .ok (.iinc 6 1, 3) := by decide +kernel
theorem dX6_findRing_177 : decode cX6_findRing 177 = .ok (.goto (-141), 3) := by decide +kernel
theorem dX6_findRing_180 : decode cX6_findRing 180 = .ok (.iconst 0, 1) := by decide +kernel
theorem dX6_findRing_181 : decode cX6_findRing 181 = .ok (.ireturn, 1) := by decide +kernel
theorem dX6_reachColumns_0 : decode cX6_reachColumns 0 = .ok (.iload_n 3, 1) := by decide +kernel
theorem dX6_reachColumns_1 : decode cX6_reachColumns 1 = .ok (.istore 5, 2) := by decide +kernel
theorem dX6_reachColumns_3 : decode cX6_reachColumns 3 = .ok (.iconst 0, 1) := by decide +kernel
theorem dX6_reachColumns_4 : decode cX6_reachColumns 4 = .ok (.istore 6, 2) := by decide +kernel
theorem dX6_reachColumns_6 : decode cX6_reachColumns 6 = .ok (.iload 6, 2) := by decide +kernel
theorem dX6_reachColumns_8 : decode cX6_reachColumns 8 = .ok (.aload_n 1, 1) := by decide +kernel
theorem dX6_reachColumns_9 : decode cX6_reachColumns 9 = .ok (.getfield 35, 3) := by decide +kernel
theorem dX6_reachColumns_12 : decode cX6_reachColumns 12 = .ok (.if_icmp .ge 69, 3) := by decide +kernel
theorem dX6_reachColumns_15 : decode cX6_reachColumns 15 = .ok (.aload_n 0, 1) := by decide +kernel
theorem dX6_reachColumns_16 : decode cX6_reachColumns 16 = .ok (.getfield 23, 3) := by decide +kernel
theorem dX6_reachColumns_19 : decode cX6_reachColumns 19 = .ok (.iload 6, 2) := by decide +kernel
theorem dX6_reachColumns_21 : decode cX6_reachColumns 21 = .ok (.iaload, 1) := by decide +kernel
theorem dX6_reachColumns_22 : decode cX6_reachColumns 22 = .ok (.iconst (-1), 1) := by decide +kernel
theorem dX6_reachColumns_23 : decode cX6_reachColumns 23 = .ok (.if_icmp .ne 52, 3) := by decide +kernel
theorem dX6_reachColumns_26 : decode cX6_reachColumns 26 = .ok (.iload_n 2, 1) := by decide +kernel
theorem dX6_reachColumns_27 : decode cX6_reachColumns 27 = .ok (.iload 6, 2) := by decide +kernel
theorem dX6_reachColumns_29 : decode cX6_reachColumns 29 = .ok (.invokestatic 93, 3) := by decide +kernel
theorem dX6_reachColumns_32 : decode cX6_reachColumns 32 = .ok (.iload 4, 2) := by decide +kernel
theorem dX6_reachColumns_34 : decode cX6_reachColumns 34 = .ok (.if_icmp .lt 41, 3) := by decide +kernel
theorem dX6_reachColumns_37 : decode cX6_reachColumns 37 = .ok (.aload_n 0, 1) := by decide +kernel
theorem dX6_reachColumns_38 : decode cX6_reachColumns 38 = .ok (.aload_n 1, 1) := by decide +kernel
theorem dX6_reachColumns_39 : decode cX6_reachColumns 39 = .ok (.iload_n 2, 1) := by decide +kernel
theorem dX6_reachColumns_40 : decode cX6_reachColumns 40 = .ok (.iload 6, 2) := by decide +kernel
theorem dX6_reachColumns_42 : decode cX6_reachColumns 42 = .ok (.invokevirtual 89, 3) := by decide +kernel
theorem dX6_reachColumns_45 : decode cX6_reachColumns 45 = .ok (.ifCond .eq 30, 3) := by decide +kernel
theorem dX6_reachColumns_48 : decode cX6_reachColumns 48 = .ok (.aload_n 0, 1) := by decide +kernel
theorem dX6_reachColumns_49 : decode cX6_reachColumns 49 = .ok (.getfield 23, 3) := by decide +kernel
theorem dX6_reachColumns_52 : decode cX6_reachColumns 52 = .ok (.iload 6, 2) := by decide +kernel
theorem dX6_reachColumns_54 : decode cX6_reachColumns 54 = .ok (.iload_n 2, 1) := by decide +kernel
theorem dX6_reachColumns_55 : decode cX6_reachColumns 55 = .ok (.iastore, 1) := by decide +kernel
theorem dX6_reachColumns_56 : decode cX6_reachColumns 56 = .ok (.iload 5, 2) := by decide +kernel
theorem dX6_reachColumns_58 : decode cX6_reachColumns 58 = .ok (.bipush 10, 2) := by decide +kernel
theorem dX6_reachColumns_60 : decode cX6_reachColumns 60 = .ok (.if_icmp .ge 15, 3) := by decide +kernel
theorem dX6_reachColumns_63 : decode cX6_reachColumns 63 = .ok (.aload_n 0, 1) := by decide +kernel
theorem dX6_reachColumns_64 : decode cX6_reachColumns 64 = .ok (.getfield 26, 3) := by decide +kernel
theorem dX6_reachColumns_67 : decode cX6_reachColumns 67 = .ok (.iload 5, 2) := by decide +kernel
theorem dX6_reachColumns_69 : decode cX6_reachColumns 69 = .ok (.iload 6, 2) := by decide +kernel
theorem dX6_reachColumns_71 : decode cX6_reachColumns 71 = .ok (.iastore, 1) := by decide +kernel
theorem dX6_reachColumns_72 : decode cX6_reachColumns 72 = .ok (.iinc 5 1, 3) := by decide +kernel
theorem dX6_reachColumns_75 : decode cX6_reachColumns 75 = .ok (.iinc 6 1, 3) := by decide +kernel
theorem dX6_reachColumns_78 : decode cX6_reachColumns 78 = .ok (.goto (-72), 3) := by decide +kernel
theorem dX6_reachColumns_81 : decode cX6_reachColumns 81 = .ok (.iload 5, 2) := by decide +kernel
theorem dX6_reachColumns_83 : decode cX6_reachColumns 83 = .ok (.ireturn, 1) := by decide +kernel
theorem dX6_turnRing_0 : decode cX6_turnRing 0 = .ok (.aload_n 0, 1) := by decide +kernel
theorem dX6_turnRing_1 : decode cX6_turnRing 1 = .ok (.iload_n 1, 1) := by decide +kernel
theorem dX6_turnRing_2 : decode cX6_turnRing 2 = .ok (.iload_n 2, 1) := by decide +kernel
theorem dX6_turnRing_3 : decode cX6_turnRing 3 = .ok (.invokevirtual 108, 3) := by decide +kernel
theorem dX6_turnRing_6 : decode cX6_turnRing 6 = .ok (.istore_n 3, 1) := by decide +kernel
theorem dX6_turnRing_7 : decode cX6_turnRing 7 = .ok (.iload_n 1, 1) := by decide +kernel
theorem dX6_turnRing_8 : decode cX6_turnRing 8 = .ok (.istore 4, 2) := by decide +kernel
theorem dX6_turnRing_10 : decode cX6_turnRing 10 = .ok (.aload_n 0, 1) := by decide +kernel
theorem dX6_turnRing_11 : decode cX6_turnRing 11 = .ok (.getfield 20, 3) := by decide +kernel
theorem dX6_turnRing_14 : decode cX6_turnRing 14 = .ok (.iload_n 1, 1) := by decide +kernel
theorem dX6_turnRing_15 : decode cX6_turnRing 15 = .ok (.iaload, 1) := by decide +kernel
theorem dX6_turnRing_16 : decode cX6_turnRing 16 = .ok (.istore 5, 2) := by decide +kernel
theorem dX6_turnRing_18 : decode cX6_turnRing 18 = .ok (.iconst 0, 1) := by decide +kernel
theorem dX6_turnRing_19 : decode cX6_turnRing 19 = .ok (.istore 6, 2) := by decide +kernel
theorem dX6_turnRing_21 : decode cX6_turnRing 21 = .ok (.iload 6, 2) := by decide +kernel
theorem dX6_turnRing_23 : decode cX6_turnRing 23 = .ok (.bipush 10, 2) := by decide +kernel
theorem dX6_turnRing_25 : decode cX6_turnRing 25 = .ok (.if_icmp .ge 71, 3) := by decide +kernel
theorem dX6_turnRing_28 : decode cX6_turnRing 28 = .ok (.iload 5, 2) := by decide +kernel
theorem dX6_turnRing_30 : decode cX6_turnRing 30 = .ok (.iconst (-1), 1) := by decide +kernel
theorem dX6_turnRing_31 : decode cX6_turnRing 31 = .ok (.if_icmp .eq 65, 3) := by decide +kernel
theorem dX6_turnRing_34 : decode cX6_turnRing 34 = .ok (.aload_n 0, 1) := by decide +kernel
theorem dX6_turnRing_35 : decode cX6_turnRing 35 = .ok (.getfield 11, 3) := by decide +kernel
theorem dX6_turnRing_38 : decode cX6_turnRing 38 = .ok (.iload 4, 2) := by decide +kernel
theorem dX6_turnRing_40 : decode cX6_turnRing 40 = .ok (.aaload, 1) := by decide +kernel
theorem dX6_turnRing_41 : decode cX6_turnRing 41 = .ok (.iload 5, 2) := by decide +kernel
theorem dX6_turnRing_43 : decode cX6_turnRing 43 = .ok (.dup2, 1) := by decide +kernel
theorem dX6_turnRing_44 : decode cX6_turnRing 44 = .ok (.iaload, 1) := by decide +kernel
theorem dX6_turnRing_45 : decode cX6_turnRing 45 = .ok (.iload_n 3, 1) := by decide +kernel
theorem dX6_turnRing_46 : decode cX6_turnRing 46 = .ok (.isub, 1) := by decide +kernel
theorem dX6_turnRing_47 : decode cX6_turnRing 47 = .ok (.iastore, 1) := by decide +kernel
theorem dX6_turnRing_48 : decode cX6_turnRing 48 = .ok (.aload_n 0, 1) := by decide +kernel
theorem dX6_turnRing_49 : decode cX6_turnRing 49 = .ok (.getfield 23, 3) := by decide +kernel
theorem dX6_turnRing_52 : decode cX6_turnRing 52 = .ok (.iload 5, 2) := by decide +kernel
theorem dX6_turnRing_54 : decode cX6_turnRing 54 = .ok (.iaload, 1) := by decide +kernel
theorem dX6_turnRing_55 : decode cX6_turnRing 55 = .ok (.istore 4, 2) := by decide +kernel
theorem dX6_turnRing_57 : decode cX6_turnRing 57 = .ok (.aload_n 0, 1) := by decide +kernel
theorem dX6_turnRing_58 : decode cX6_turnRing 58 = .ok (.getfield 11, 3) := by decide +kernel
theorem dX6_turnRing_61 : decode cX6_turnRing 61 = .ok (.iload 4, 2) := by decide +kernel
theorem dX6_turnRing_63 : decode cX6_turnRing 63 = .ok (.aaload, 1) := by decide +kernel
theorem dX6_turnRing_64 : decode cX6_turnRing 64 = .ok (.iload 5, 2) := by decide +kernel
theorem dX6_turnRing_66 : decode cX6_turnRing 66 = .ok (.dup2, 1) := by decide +kernel
theorem dX6_turnRing_67 : decode cX6_turnRing 67 = .ok (.iaload, 1) := by decide +kernel
theorem dX6_turnRing_68 : decode cX6_turnRing 68 = .ok (.iload_n 3, 1) := by decide +kernel
theorem dX6_turnRing_69 : decode cX6_turnRing 69 = .ok (.iadd, 1) := by decide +kernel
theorem dX6_turnRing_70 : decode cX6_turnRing 70 = .ok (.iastore, 1) := by decide +kernel
theorem dX6_turnRing_71 : decode cX6_turnRing 71 = .ok (.iload 5, 2) := by decide +kernel
theorem dX6_turnRing_73 : decode cX6_turnRing 73 = .ok (.iload_n 2, 1) := by decide +kernel
theorem dX6_turnRing_74 : decode cX6_turnRing 74 = .ok (.if_icmp .ne 7, 3) := by decide +kernel
theorem dX6_turnRing_77 : decode cX6_turnRing 77 = .ok (.iconst (-1), 1) := by decide +kernel
theorem dX6_turnRing_78 : decode cX6_turnRing 78 = .ok (.goto 10, 3) := by decide +kernel
theorem dX6_turnRing_81 : decode cX6_turnRing 81 = .ok (.aload_n 0, 1) := by decide +kernel
theorem dX6_turnRing_82 : decode cX6_turnRing 82 = .ok (.getfield 20, 3) := by decide +kernel
theorem dX6_turnRing_85 : decode cX6_turnRing 85 = .ok (.iload 4, 2) := by decide +kernel
theorem dX6_turnRing_87 : decode cX6_turnRing 87 = .ok (.iaload, 1) := by decide +kernel
theorem dX6_turnRing_88 : decode cX6_turnRing 88 = .ok (.istore 5, 2) := by decide +kernel
theorem dX6_turnRing_90 : decode cX6_turnRing 90 = .ok (.iinc 6 1, 3) := by decide +kernel
theorem dX6_turnRing_93 : decode cX6_turnRing 93 = .ok (.goto (-72), 3) := by decide +kernel
theorem dX6_turnRing_96 : decode cX6_turnRing 96 = .ok (.return_, 1) := by decide +kernel
theorem dX6_ringAmount_0 : decode cX6_ringAmount 0 = .ok (.sipush 1000, 3) := by decide +kernel
theorem dX6_ringAmount_3 : decode cX6_ringAmount 3 = .ok (.istore_n 3, 1) := by decide +kernel
theorem dX6_ringAmount_4 : decode cX6_ringAmount 4 = .ok (.iload_n 1, 1) := by decide +kernel
theorem dX6_ringAmount_5 : decode cX6_ringAmount 5 = .ok (.istore 4, 2) := by decide +kernel
theorem dX6_ringAmount_7 : decode cX6_ringAmount 7 = .ok (.aload_n 0, 1) := by decide +kernel
theorem dX6_ringAmount_8 : decode cX6_ringAmount 8 = .ok (.getfield 20, 3) := by decide +kernel
theorem dX6_ringAmount_11 : decode cX6_ringAmount 11 = .ok (.iload_n 1, 1) := by decide +kernel
theorem dX6_ringAmount_12 : decode cX6_ringAmount 12 = .ok (.iaload, 1) := by decide +kernel
theorem dX6_ringAmount_13 : decode cX6_ringAmount 13 = .ok (.istore 5, 2) := by decide +kernel
theorem dX6_ringAmount_15 : decode cX6_ringAmount 15 = .ok (.iconst 0, 1) := by decide +kernel
theorem dX6_ringAmount_16 : decode cX6_ringAmount 16 = .ok (.istore 6, 2) := by decide +kernel
theorem dX6_ringAmount_18 : decode cX6_ringAmount 18 = .ok (.iload 6, 2) := by decide +kernel
theorem dX6_ringAmount_20 : decode cX6_ringAmount 20 = .ok (.bipush 10, 2) := by decide +kernel
theorem dX6_ringAmount_22 : decode cX6_ringAmount 22 = .ok (.if_icmp .ge 58, 3) := by decide +kernel
theorem dX6_ringAmount_25 : decode cX6_ringAmount 25 = .ok (.iload 5, 2) := by decide +kernel
theorem dX6_ringAmount_27 : decode cX6_ringAmount 27 = .ok (.iconst (-1), 1) := by decide +kernel
theorem dX6_ringAmount_28 : decode cX6_ringAmount 28 = .ok (.if_icmp .eq 52, 3) := by decide +kernel
theorem dX6_ringAmount_31 : decode cX6_ringAmount 31 = .ok (.iload_n 3, 1) := by decide +kernel
theorem dX6_ringAmount_32 : decode cX6_ringAmount 32 = .ok (.aload_n 0, 1) := by decide +kernel
theorem dX6_ringAmount_33 : decode cX6_ringAmount 33 = .ok (.getfield 11, 3) := by decide +kernel
theorem dX6_ringAmount_36 : decode cX6_ringAmount 36 = .ok (.iload 4, 2) := by decide +kernel
theorem dX6_ringAmount_38 : decode cX6_ringAmount 38 = .ok (.aaload, 1) := by decide +kernel
theorem dX6_ringAmount_39 : decode cX6_ringAmount 39 = .ok (.iload 5, 2) := by decide +kernel
theorem dX6_ringAmount_41 : decode cX6_ringAmount 41 = .ok (.iaload, 1) := by decide +kernel
theorem dX6_ringAmount_42 : decode cX6_ringAmount 42 = .ok (.invokestatic 65, 3) := by decide +kernel
theorem dX6_ringAmount_45 : decode cX6_ringAmount 45 = .ok (.istore_n 3, 1) := by decide +kernel
theorem dX6_ringAmount_46 : decode cX6_ringAmount 46 = .ok (.aload_n 0, 1) := by decide +kernel
theorem dX6_ringAmount_47 : decode cX6_ringAmount 47 = .ok (.getfield 23, 3) := by decide +kernel
theorem dX6_ringAmount_50 : decode cX6_ringAmount 50 = .ok (.iload 5, 2) := by decide +kernel
theorem dX6_ringAmount_52 : decode cX6_ringAmount 52 = .ok (.iaload, 1) := by decide +kernel
theorem dX6_ringAmount_53 : decode cX6_ringAmount 53 = .ok (.istore 4, 2) := by decide +kernel
theorem dX6_ringAmount_55 : decode cX6_ringAmount 55 = .ok (.iload 5, 2) := by decide +kernel
theorem dX6_ringAmount_57 : decode cX6_ringAmount 57 = .ok (.iload_n 2, 1) := by decide +kernel
theorem dX6_ringAmount_58 : decode cX6_ringAmount 58 = .ok (.if_icmp .ne 7, 3) := by decide +kernel
theorem dX6_ringAmount_61 : decode cX6_ringAmount 61 = .ok (.iconst (-1), 1) := by decide +kernel
theorem dX6_ringAmount_62 : decode cX6_ringAmount 62 = .ok (.goto 10, 3) := by decide +kernel
theorem dX6_ringAmount_65 : decode cX6_ringAmount 65 = .ok (.aload_n 0, 1) := by decide +kernel
theorem dX6_ringAmount_66 : decode cX6_ringAmount 66 = .ok (.getfield 20, 3) := by decide +kernel
theorem dX6_ringAmount_69 : decode cX6_ringAmount 69 = .ok (.iload 4, 2) := by decide +kernel
theorem dX6_ringAmount_71 : decode cX6_ringAmount 71 = .ok (.iaload, 1) := by decide +kernel
theorem dX6_ringAmount_72 : decode cX6_ringAmount 72 = .ok (.istore 5, 2) := by decide +kernel
theorem dX6_ringAmount_74 : decode cX6_ringAmount 74 = .ok (.iinc 6 1, 3) := by decide +kernel
theorem dX6_ringAmount_77 : decode cX6_ringAmount 77 = .ok (.goto (-59), 3) := by decide +kernel
theorem dX6_ringAmount_80 : decode cX6_ringAmount 80 = .ok (.iload_n 3, 1) := by decide +kernel
theorem dX6_ringAmount_81 : decode cX6_ringAmount 81 = .ok (.ireturn, 1) := by decide +kernel
theorem dX6_carried_0 : decode cX6_carried 0 = .ok (.iconst 0, 1) := by decide +kernel
theorem dX6_carried_1 : decode cX6_carried 1 = .ok (.istore 4, 2) := by decide +kernel
theorem dX6_carried_3 : decode cX6_carried 3 = .ok (.iconst 0, 1) := by decide +kernel
theorem dX6_carried_4 : decode cX6_carried 4 = .ok (.istore 5, 2) := by decide +kernel
theorem dX6_carried_6 : decode cX6_carried 6 = .ok (.iload 5, 2) := by decide +kernel
theorem dX6_carried_8 : decode cX6_carried 8 = .ok (.aload_n 1, 1) := by decide +kernel
theorem dX6_carried_9 : decode cX6_carried 9 = .ok (.getfield 35, 3) := by decide +kernel
theorem dX6_carried_12 : decode cX6_carried 12 = .ok (.if_icmp .ge 78, 3) := by decide +kernel
theorem dX6_carried_15 : decode cX6_carried 15 = .ok (.iconst 0, 1) := by decide +kernel
theorem dX6_carried_16 : decode cX6_carried 16 = .ok (.istore 6, 2) := by decide +kernel
theorem dX6_carried_18 : decode cX6_carried 18 = .ok (.iload 6, 2) := by decide +kernel
theorem dX6_carried_20 : decode cX6_carried 20 = .ok (.aload_n 1, 1) := by decide +kernel
theorem dX6_carried_21 : decode cX6_carried 21 = .ok (.getfield 35, 3) := by decide +kernel
theorem dX6_carried_24 : decode cX6_carried 24 = .ok (.if_icmp .ge 60, 3) := by decide +kernel
theorem dX6_carried_27 : decode cX6_carried 27 = .ok (.aload_n 0, 1) := by decide +kernel
theorem dX6_carried_28 : decode cX6_carried 28 = .ok (.getfield 11, 3) := by decide +kernel
theorem dX6_carried_31 : decode cX6_carried 31 = .ok (.iload 5, 2) := by decide +kernel
theorem dX6_carried_33 : decode cX6_carried 33 = .ok (.aaload, 1) := by decide +kernel
theorem dX6_carried_34 : decode cX6_carried 34 = .ok (.iload 6, 2) := by decide +kernel
theorem dX6_carried_36 : decode cX6_carried 36 = .ok (.iaload, 1) := by decide +kernel
theorem dX6_carried_37 : decode cX6_carried 37 = .ok (.ifCond .le 41, 3) := by decide +kernel
theorem dX6_carried_40 : decode cX6_carried 40 = .ok (.aload_n 1, 1) := by decide +kernel
theorem dX6_carried_41 : decode cX6_carried 41 = .ok (.iload_n 2, 1) := by decide +kernel
theorem dX6_carried_42 : decode cX6_carried 42 = .ok (.iload 6, 2) := by decide +kernel
theorem dX6_carried_44 : decode cX6_carried 44 = .ok (.invokevirtual 111, 3) := by decide +kernel
theorem dX6_carried_47 : decode cX6_carried 47 = .ok (.iload_n 3, 1) := by decide +kernel
theorem dX6_carried_48 : decode cX6_carried 48 = .ok (.if_icmp .ne 30, 3) := by decide +kernel
theorem dX6_carried_51 : decode cX6_carried 51 = .ok (.aload_n 1, 1) := by decide +kernel
theorem dX6_carried_52 : decode cX6_carried 52 = .ok (.iload 5, 2) := by decide +kernel
theorem dX6_carried_54 : decode cX6_carried 54 = .ok (.iload 6, 2) := by decide +kernel
theorem dX6_carried_56 : decode cX6_carried 56 = .ok (.iload_n 2, 1) := by decide +kernel
theorem dX6_carried_57 : decode cX6_carried 57 = .ok (.invokestatic 114, 3) := by decide +kernel
theorem dX6_carried_60 : decode cX6_carried 60 = .ok (.ifCond .eq 18, 3) := by decide +kernel
theorem dX6_carried_63 : decode cX6_carried 63 = .ok (.iload 4, 2) := by decide +kernel
theorem dX6_carried_65 : decode cX6_carried 65 = .ok (.aload_n 0, 1) := by decide +kernel
theorem dX6_carried_66 : decode cX6_carried 66 = .ok (.getfield 11, 3) := by decide +kernel
theorem dX6_carried_69 : decode cX6_carried 69 = .ok (.iload 5, 2) := by decide +kernel
theorem dX6_carried_71 : decode cX6_carried 71 = .ok (.aaload, 1) := by decide +kernel
theorem dX6_carried_72 : decode cX6_carried 72 = .ok (.iload 6, 2) := by decide +kernel
theorem dX6_carried_74 : decode cX6_carried 74 = .ok (.iaload, 1) := by decide +kernel
theorem dX6_carried_75 : decode cX6_carried 75 = .ok (.iadd, 1) := by decide +kernel
theorem dX6_carried_76 : decode cX6_carried 76 = .ok (.istore 4, 2) := by decide +kernel
theorem dX6_carried_78 : decode cX6_carried 78 = .ok (.iinc 6 1, 3) := by decide +kernel
theorem dX6_carried_81 : decode cX6_carried 81 = .ok (.goto (-63), 3) := by decide +kernel
theorem dX6_carried_84 : decode cX6_carried 84 = .ok (.iinc 5 1, 3) := by decide +kernel
theorem dX6_carried_87 : decode cX6_carried 87 = .ok (.goto (-81), 3) := by decide +kernel
theorem dX6_carried_90 : decode cX6_carried 90 = .ok (.iload 4, 2) := by decide +kernel
theorem dX6_carried_92 : decode cX6_carried 92 = .ok (.ireturn, 1) := by decide +kernel
theorem dX6_passes_0 : decode cX6_passes 0 = .ok (.iload_n 1, 1) := by decide +kernel
theorem dX6_passes_1 : decode cX6_passes 1 = .ok (.istore 4, 2) := by decide +kernel
theorem dX6_passes_3 : decode cX6_passes 3 = .ok (.iconst 0, 1) := by decide +kernel
theorem dX6_passes_4 : decode cX6_passes 4 = .ok (.istore 5, 2) := by decide +kernel
theorem dX6_passes_6 : decode cX6_passes 6 = .ok (.iload 5, 2) := by decide +kernel
theorem dX6_passes_8 : decode cX6_passes 8 = .ok (.bipush 10, 2) := by decide +kernel
theorem dX6_passes_10 : decode cX6_passes 10 = .ok (.if_icmp .ge 32, 3) := by decide +kernel
theorem dX6_passes_13 : decode cX6_passes 13 = .ok (.iload 4, 2) := by decide +kernel
theorem dX6_passes_15 : decode cX6_passes 15 = .ok (.iconst (-1), 1) := by decide +kernel
theorem dX6_passes_16 : decode cX6_passes 16 = .ok (.if_icmp .eq 26, 3) := by decide +kernel
theorem dX6_passes_19 : decode cX6_passes 19 = .ok (.iload 4, 2) := by decide +kernel
theorem dX6_passes_21 : decode cX6_passes 21 = .ok (.iload_n 3, 1) := by decide +kernel
theorem dX6_passes_22 : decode cX6_passes 22 = .ok (.if_icmp .ne 5, 3) := by decide +kernel
theorem dX6_passes_25 : decode cX6_passes 25 = .ok (.iconst 1, 1) := by decide +kernel
theorem dX6_passes_26 : decode cX6_passes 26 = .ok (.ireturn, 1) := by decide +kernel
theorem dX6_passes_27 : decode cX6_passes 27 = .ok (.aload_n 0, 1) := by decide +kernel
theorem dX6_passes_28 : decode cX6_passes 28 = .ok (.iload 4, 2) := by decide +kernel
theorem dX6_passes_30 : decode cX6_passes 30 = .ok (.iload_n 2, 1) := by decide +kernel
theorem dX6_passes_31 : decode cX6_passes 31 = .ok (.invokevirtual 111, 3) := by decide +kernel
theorem dX6_passes_34 : decode cX6_passes 34 = .ok (.istore 4, 2) := by decide +kernel
theorem dX6_passes_36 : decode cX6_passes 36 = .ok (.iinc 5 1, 3) := by decide +kernel
theorem dX6_passes_39 : decode cX6_passes 39 = .ok (.goto (-33), 3) := by decide +kernel
theorem dX6_passes_42 : decode cX6_passes 42 = .ok (.iconst 0, 1) := by decide +kernel
theorem dX6_passes_43 : decode cX6_passes 43 = .ok (.ireturn, 1) := by decide +kernel
theorem dX7_init_0 : decode cX7_init 0 = .ok (.aload_n 0, 1) := by decide +kernel
theorem dX7_init_1 : decode cX7_init 1 = .ok (.invokespecial 3, 3) := by decide +kernel
theorem dX7_init_4 : decode cX7_init 4 = .ok (.aload_n 0, 1) := by decide +kernel
theorem dX7_init_5 : decode cX7_init 5 = .ok (.bipush 10, 2) := by decide +kernel
theorem dX7_init_7 : decode cX7_init 7 = .ok (.newarray .int, 2) := by decide +kernel
theorem dX7_init_9 : decode cX7_init 9 = .ok (.putfield 9, 3) := by decide +kernel
theorem dX7_init_12 : decode cX7_init 12 = .ok (.aload_n 0, 1) := by decide +kernel
theorem dX7_init_13 : decode cX7_init 13 = .ok (.new 15, 3) := by decide +kernel
theorem dX7_init_16 : decode cX7_init 16 = .ok (.dup, 1) := by decide +kernel
theorem dX7_init_17 : decode cX7_init 17 = .ok (.invokespecial 17, 3) := by decide +kernel
theorem dX7_init_20 : decode cX7_init 20 = .ok (.putfield 18, 3) := by decide +kernel
theorem dX7_init_23 : decode cX7_init 23 = .ok (.return_, 1) := by decide +kernel
theorem dX7_make_0 : decode cX7_make 0 = .ok (.aload_n 0, 1) := by decide +kernel
theorem dX7_make_1 : decode cX7_make 1 = .ok (.aload_n 1, 1) := by decide +kernel
theorem dX7_make_2 : decode cX7_make 2 = .ok (.getfield 22, 3) := by decide +kernel
theorem dX7_make_5 : decode cX7_make 5 = .ok (.aload_n 2, 1) := by decide +kernel
theorem dX7_make_6 : decode cX7_make 6 = .ok (.aload_n 3, 1) := by decide +kernel
theorem dX7_make_7 : decode cX7_make 7 = .ok (.invokevirtual 28, 3) := by decide +kernel
theorem dX7_make_10 : decode cX7_make 10 = .ok (.aload_n 0, 1) := by decide +kernel
theorem dX7_make_11 : decode cX7_make 11 = .ok (.getfield 9, 3) := by decide +kernel
theorem dX7_make_14 : decode cX7_make 14 = .ok (.iconst 0, 1) := by decide +kernel
theorem dX7_make_15 : decode cX7_make 15 = .ok (.invokestatic 32, 3) := by decide +kernel
theorem dX7_make_18 : decode cX7_make 18 = .ok (.aload_n 0, 1) := by decide +kernel
theorem dX7_make_19 : decode cX7_make 19 = .ok (.iconst 0, 1) := by decide +kernel
theorem dX7_make_20 : decode cX7_make 20 = .ok (.putfield 38, 3) := by decide +kernel
theorem dX7_make_23 : decode cX7_make 23 = .ok (.aload_n 0, 1) := by decide +kernel
theorem dX7_make_24 : decode cX7_make 24 = .ok (.aload_n 1, 1) := by decide +kernel
theorem dX7_make_25 : decode cX7_make 25 = .ok (.aload_n 2, 1) := by decide +kernel
theorem dX7_make_26 : decode cX7_make 26 = .ok (.aload_n 3, 1) := by decide +kernel
theorem dX7_make_27 : decode cX7_make 27 = .ok (.invokevirtual 41, 3) := by decide +kernel
theorem dX7_make_30 : decode cX7_make 30 = .ok (.aload_n 0, 1) := by decide +kernel
theorem dX7_make_31 : decode cX7_make 31 = .ok (.getfield 18, 3) := by decide +kernel
theorem dX7_make_34 : decode cX7_make 34 = .ok (.iload 4, 2) := by decide +kernel
theorem dX7_make_36 : decode cX7_make 36 = .ok (.invokevirtual 45, 3) := by decide +kernel
theorem dX7_make_39 : decode cX7_make 39 = .ok (.iconst 0, 1) := by decide +kernel
theorem dX7_make_40 : decode cX7_make 40 = .ok (.istore 5, 2) := by decide +kernel
theorem dX7_make_42 : decode cX7_make 42 = .ok (.iload 5, 2) := by decide +kernel
theorem dX7_make_44 : decode cX7_make 44 = .ok (.bipush 100, 2) := by decide +kernel
theorem dX7_make_46 : decode cX7_make 46 = .ok (.if_icmp .ge 57, 3) := by decide +kernel
theorem dX7_make_49 : decode cX7_make 49 = .ok (.aload_n 0, 1) := by decide +kernel
theorem dX7_make_50 : decode cX7_make 50 = .ok (.getfield 18, 3) := by decide +kernel
theorem dX7_make_53 : decode cX7_make 53 = .ok (.getfield 49, 3) := by decide +kernel
theorem dX7_make_56 : decode cX7_make 56 = .ok (.iload 4, 2) := by decide +kernel
theorem dX7_make_58 : decode cX7_make 58 = .ok (.if_icmp .ge 45, 3) := by decide +kernel
theorem dX7_make_61 : decode cX7_make 61 = .ok (.aload_n 0, 1) := by decide +kernel
theorem dX7_make_62 : decode cX7_make 62 = .ok (.aload_n 1, 1) := by decide +kernel
theorem dX7_make_63 : decode cX7_make 63 = .ok (.getfield 22, 3) := by decide +kernel
theorem dX7_make_66 : decode cX7_make 66 = .ok (.invokevirtual 52, 3) := by decide +kernel
theorem dX7_make_69 : decode cX7_make 69 = .ok (.aload_n 0, 1) := by decide +kernel
theorem dX7_make_70 : decode cX7_make 70 = .ok (.aload_n 1, 1) := by decide +kernel
theorem dX7_make_71 : decode cX7_make 71 = .ok (.aload_n 0, 1) := by decide +kernel
theorem dX7_make_72 : decode cX7_make 72 = .ok (.getfield 38, 3) := by decide +kernel
theorem dX7_make_75 : decode cX7_make 75 = .ok (.invokestatic 55, 3) := by decide +kernel
theorem dX7_make_78 : decode cX7_make 78 = .ok (.putfield 38, 3) := by decide +kernel
theorem dX7_make_81 : decode cX7_make 81 = .ok (.aload_n 0, 1) := by decide +kernel
theorem dX7_make_82 : decode cX7_make 82 = .ok (.aload_n 1, 1) := by decide +kernel
theorem dX7_make_83 : decode cX7_make 83 = .ok (.aload_n 2, 1) := by decide +kernel
theorem dX7_make_84 : decode cX7_make 84 = .ok (.aload_n 3, 1) := by decide +kernel
theorem dX7_make_85 : decode cX7_make 85 = .ok (.invokevirtual 41, 3) := by decide +kernel
theorem dX7_make_88 : decode cX7_make 88 = .ok (.aload_n 0, 1) := by decide +kernel
theorem dX7_make_89 : decode cX7_make 89 = .ok (.getfield 18, 3) := by decide +kernel
theorem dX7_make_92 : decode cX7_make 92 = .ok (.iload 4, 2) := by decide +kernel
theorem dX7_make_94 : decode cX7_make 94 = .ok (.invokevirtual 45, 3) := by decide +kernel
theorem dX7_make_97 : decode cX7_make 97 = .ok (.iinc 5 1, 3) := by decide +kernel
theorem dX7_make_100 : decode cX7_make 100 = .ok (.goto (-58), 3) := by decide +kernel
theorem dX7_make_103 : decode cX7_make 103 = .ok (.return_, 1) := by decide +kernel
theorem dX7_joinEnds_0 : decode cX7_joinEnds 0 = .ok (.aload_n 0, 1) := by decide +kernel
theorem dX7_joinEnds_1 : decode cX7_joinEnds 1 = .ok (.getfield 18, 3) := by decide +kernel
theorem dX7_joinEnds_4 : decode cX7_joinEnds 4 = .ok (.invokevirtual 59, 3) := by decide +kernel
theorem dX7_joinEnds_7 : decode cX7_joinEnds 7 = .ok (.iconst 0, 1) := by decide +kernel
theorem dX7_joinEnds_8 : decode cX7_joinEnds 8 = .ok (.istore 4, 2) := by decide +kernel
theorem dX7_joinEnds_10 : decode cX7_joinEnds 10 = .ok (.iload 4, 2) := by decide +kernel
theorem dX7_joinEnds_12 : decode cX7_joinEnds 12 = .ok (.iload_n 1, 1) := by decide +kernel
theorem dX7_joinEnds_13 : decode cX7_joinEnds 13 = .ok (.if_icmp .ge 58, 3) := by decide +kernel
theorem dX7_joinEnds_16 : decode cX7_joinEnds 16 = .ok (.aload_n 2, 1) := by decide +kernel
theorem dX7_joinEnds_17 : decode cX7_joinEnds 17 = .ok (.iload 4, 2) := by decide +kernel
theorem dX7_joinEnds_19 : decode cX7_joinEnds 19 = .ok (.iaload, 1) := by decide +kernel
theorem dX7_joinEnds_20 : decode cX7_joinEnds 20 = .ok (.ifCond .le 19, 3) := by decide +kernel
theorem dX7_joinEnds_23 : decode cX7_joinEnds 23 = .ok (.aload_n 0, 1) := by decide +kernel
theorem dX7_joinEnds_24 : decode cX7_joinEnds 24 = .ok (.getfield 18, 3) := by decide +kernel
theorem dX7_joinEnds_27 : decode cX7_joinEnds 27 = .ok (.bipush 20, 2) := by decide +kernel
theorem dX7_joinEnds_29 : decode cX7_joinEnds 29 = .ok (.iload 4, 2) := by decide +kernel
theorem dX7_joinEnds_31 : decode cX7_joinEnds 31 = .ok (.aload_n 2, 1) := by decide +kernel
theorem dX7_joinEnds_32 : decode cX7_joinEnds 32 = .ok (.iload 4, 2) := by decide +kernel
theorem dX7_joinEnds_34 : decode cX7_joinEnds 34 = .ok (.iaload, 1) := by decide +kernel
theorem dX7_joinEnds_35 : decode cX7_joinEnds 35 = .ok (.iconst 0, 1) := by decide +kernel
theorem dX7_joinEnds_36 : decode cX7_joinEnds 36 = .ok (.invokevirtual 62, 3) := by decide +kernel
theorem dX7_joinEnds_39 : decode cX7_joinEnds 39 = .ok (.aload_n 3, 1) := by decide +kernel
theorem dX7_joinEnds_40 : decode cX7_joinEnds 40 = .ok (.iload 4, 2) := by decide +kernel
theorem dX7_joinEnds_42 : decode cX7_joinEnds 42 = .ok (.iaload, 1) := by decide +kernel
theorem dX7_joinEnds_43 : decode cX7_joinEnds 43 = .ok (.ifCond .le 22, 3) := by decide +kernel
theorem dX7_joinEnds_46 : decode cX7_joinEnds 46 = .ok (.aload_n 0, 1) := by decide +kernel
theorem dX7_joinEnds_47 : decode cX7_joinEnds 47 = .ok (.getfield 18, 3) := by decide +kernel
theorem dX7_joinEnds_50 : decode cX7_joinEnds 50 = .ok (.bipush 10, 2) := by decide +kernel
theorem dX7_joinEnds_52 : decode cX7_joinEnds 52 = .ok (.iload 4, 2) := by decide +kernel
theorem dX7_joinEnds_54 : decode cX7_joinEnds 54 = .ok (.iadd, 1) := by decide +kernel
theorem dX7_joinEnds_55 : decode cX7_joinEnds 55 = .ok (.bipush 21, 2) := by decide +kernel
theorem dX7_joinEnds_57 : decode cX7_joinEnds 57 = .ok (.aload_n 3, 1) := by decide +kernel
theorem dX7_joinEnds_58 : decode cX7_joinEnds 58 = .ok (.iload 4, 2) := by decide +kernel
theorem dX7_joinEnds_60 : decode cX7_joinEnds 60 = .ok (.iaload, 1) := by decide +kernel
theorem dX7_joinEnds_61 : decode cX7_joinEnds 61 = .ok (.iconst 0, 1) := by decide +kernel
theorem dX7_joinEnds_62 : decode cX7_joinEnds 62 = .ok (.invokevirtual 62, 3) := by decide +kernel
theorem dX7_joinEnds_65 : decode cX7_joinEnds 65 = .ok (.iinc 4 1, 3) := by decide +kernel
theorem dX7_joinEnds_68 : decode cX7_joinEnds 68 = .ok (.goto (-58), 3) := by decide +kernel
theorem dX7_joinEnds_71 : decode cX7_joinEnds 71 = .ok (.return_, 1) := by decide +kernel
theorem dX7_joinDistance_0 : decode cX7_joinDistance 0 = .ok (.iconst 0, 1) := by decide +kernel
theorem dX7_joinDistance_1 : decode cX7_joinDistance 1 = .ok (.istore 4, 2) := by decide +kernel
theorem dX7_joinDistance_3 : decode cX7_joinDistance 3 = .ok (.iload 4, 2) := by decide +kernel
theorem dX7_joinDistance_5 : decode cX7_joinDistance 5 = .ok (.aload_n 1, 1) := by decide +kernel
theorem dX7_joinDistance_6 : decode cX7_joinDistance 6 = .ok (.getfield 22, 3) := by decide +kernel
theorem dX7_joinDistance_9 : decode cX7_joinDistance 9 = .ok (.if_icmp .ge 75, 3) := by decide +kernel
theorem dX7_joinDistance_12 : decode cX7_joinDistance 12 = .ok (.iconst 0, 1) := by decide +kernel
theorem dX7_joinDistance_13 : decode cX7_joinDistance 13 = .ok (.istore 5, 2) := by decide +kernel
theorem dX7_joinDistance_15 : decode cX7_joinDistance 15 = .ok (.iload 5, 2) := by decide +kernel
theorem dX7_joinDistance_17 : decode cX7_joinDistance 17 = .ok (.aload_n 1, 1) := by decide +kernel
theorem dX7_joinDistance_18 : decode cX7_joinDistance 18 = .ok (.getfield 22, 3) := by decide +kernel
theorem dX7_joinDistance_21 : decode cX7_joinDistance 21 = .ok (.if_icmp .ge 57, 3) := by decide +kernel
theorem dX7_joinDistance_24 : decode cX7_joinDistance 24 = .ok (.aload_n 1, 1) := by decide +kernel
theorem dX7_joinDistance_25 : decode cX7_joinDistance 25 = .ok (.getfield 66, 3) := by decide +kernel
theorem dX7_joinDistance_28 : decode cX7_joinDistance 28 = .ok (.iload 4, 2) := by decide +kernel
theorem dX7_joinDistance_30 : decode cX7_joinDistance 30 = .ok (.aaload, 1) := by decide +kernel
theorem dX7_joinDistance_31 : decode cX7_joinDistance 31 = .ok (.iload 5, 2) := by decide +kernel
theorem dX7_joinDistance_33 : decode cX7_joinDistance 33 = .ok (.iaload, 1) := by decide +kernel
theorem dX7_joinDistance_34 : decode cX7_joinDistance 34 = .ok (.aload_n 0, 1) := by decide +kernel
theorem dX7_joinDistance_35 : decode cX7_joinDistance 35 = .ok (.getfield 38, 3) := by decide +kernel
theorem dX7_joinDistance_38 : decode cX7_joinDistance 38 = .ok (.if_icmp .ne 34, 3) := by decide +kernel
theorem dX7_joinDistance_41 : decode cX7_joinDistance 41 = .ok (.aload_n 2, 1) := by decide +kernel
theorem dX7_joinDistance_42 : decode cX7_joinDistance 42 = .ok (.iload 4, 2) := by decide +kernel
theorem dX7_joinDistance_44 : decode cX7_joinDistance 44 = .ok (.iaload, 1) := by decide +kernel
theorem dX7_joinDistance_45 : decode cX7_joinDistance 45 = .ok (.ifCond .le 27, 3) := by decide +kernel
theorem dX7_joinDistance_48 : decode cX7_joinDistance 48 = .ok (.aload_n 3, 1) := by decide +kernel
theorem dX7_joinDistance_49 : decode cX7_joinDistance 49 = .ok (.iload 5, 2) := by decide +kernel
theorem dX7_joinDistance_51 : decode cX7_joinDistance 51 = .ok (.iaload, 1) := by decide +kernel
theorem dX7_joinDistance_52 : decode cX7_joinDistance 52 = .ok (.ifCond .le 20, 3) := by decide +kernel
theorem dX7_joinDistance_55 : decode cX7_joinDistance 55 = .ok (.aload_n 0, 1) := by decide +kernel
theorem dX7_joinDistance_56 : decode cX7_joinDistance 56 = .ok (.getfield 18, 3) := by decide +kernel
theorem dX7_joinDistance_59 : decode cX7_joinDistance 59 = .ok (.iload 4, 2) := by decide +kernel
theorem dX7_joinDistance_61 : decode cX7_joinDistance 61 = .ok (.bipush 10, 2) := by decide +kernel
theorem dX7_joinDistance_63 : decode cX7_joinDistance 63 = .ok (.iload 5, 2) := by decide +kernel
theorem dX7_joinDistance_65 : decode cX7_joinDistance 65 = .ok (.iadd, 1) := by decide +kernel
theorem dX7_joinDistance_66 : decode cX7_joinDistance 66 = .ok (.ldc 70, 2) := by decide +kernel
theorem dX7_joinDistance_68 : decode cX7_joinDistance 68 = .ok (.iconst 0, 1) := by decide +kernel
theorem dX7_joinDistance_69 : decode cX7_joinDistance 69 = .ok (.invokevirtual 62, 3) := by decide +kernel
theorem dX7_joinDistance_72 : decode cX7_joinDistance 72 = .ok (.iinc 5 1, 3) := by decide +kernel
theorem dX7_joinDistance_75 : decode cX7_joinDistance 75 = .ok (.goto (-60), 3) := by decide +kernel
theorem dX7_joinDistance_78 : decode cX7_joinDistance 78 = .ok (.iinc 4 1, 3) := by decide +kernel
theorem dX7_joinDistance_81 : decode cX7_joinDistance 81 = .ok (.goto (-78), 3) := by decide +kernel
theorem dX7_joinDistance_84 : decode cX7_joinDistance 84 = .ok (.return_, 1) := by decide +kernel
theorem dX7_noteStuck_0 : decode cX7_noteStuck 0 = .ok (.iconst 0, 1) := by decide +kernel
theorem dX7_noteStuck_1 : decode cX7_noteStuck 1 = .ok (.istore_n 2, 1) := by decide +kernel
theorem dX7_noteStuck_2 : decode cX7_noteStuck 2 = .ok (.iload_n 2, 1) := by decide +kernel
theorem dX7_noteStuck_3 : decode cX7_noteStuck 3 = .ok (.iload_n 1, 1) := by decide +kernel
theorem dX7_noteStuck_4 : decode cX7_noteStuck 4 = .ok (.if_icmp .ge 31, 3) := by decide +kernel
theorem dX7_noteStuck_7 : decode cX7_noteStuck 7 = .ok (.aload_n 0, 1) := by decide +kernel
theorem dX7_noteStuck_8 : decode cX7_noteStuck 8 = .ok (.getfield 9, 3) := by decide +kernel
theorem dX7_noteStuck_11 : decode cX7_noteStuck 11 = .ok (.iload_n 2, 1) := by decide +kernel
theorem dX7_noteStuck_12 : decode cX7_noteStuck 12 = .ok (.aload_n 0, 1) := by decide +kernel
theorem dX7_noteStuck_13 : decode cX7_noteStuck 13 = .ok (.getfield 18, 3) := by decide +kernel
theorem dX7_noteStuck_16 : decode cX7_noteStuck 16 = .ok (.iload_n 2, 1) := by decide +kernel
theorem dX7_noteStuck_17 : decode cX7_noteStuck 17 = .ok (.invokevirtual 71, 3) := by decide +kernel
theorem dX7_noteStuck_20 : decode cX7_noteStuck 20 = .ok (.ifCond .eq 7, 3) := by decide +kernel
theorem dX7_noteStuck_23 : decode cX7_noteStuck 23 = .ok (.iconst 1, 1) := by decide +kernel
theorem dX7_noteStuck_24 : decode cX7_noteStuck 24 = .ok (.goto 4, 3) := by decide +kernel
theorem dX7_noteStuck_27 : decode cX7_noteStuck 27 = .ok (.iconst 0, 1) := by decide +kernel
theorem dX7_noteStuck_28 : decode cX7_noteStuck 28 = .ok (.iastore, 1) := by decide +kernel
theorem dX7_noteStuck_29 : decode cX7_noteStuck 29 = .ok (.iinc 2 1, 3) := by decide +kernel
theorem dX7_noteStuck_32 : decode cX7_noteStuck 32 = .ok (.goto (-30), 3) := by decide +kernel
theorem dX7_noteStuck_35 : decode cX7_noteStuck 35 = .ok (.return_, 1) := by decide +kernel
theorem dX7_distanceAbove_0 : decode cX7_distanceAbove 0 = .ok (.ldc 70, 2) := by decide +kernel
theorem dX7_distanceAbove_2 : decode cX7_distanceAbove 2 = .ok (.istore_n 2, 1) := by decide +kernel
theorem dX7_distanceAbove_3 : decode cX7_distanceAbove 3 = .ok (.iconst 0, 1) := by decide +kernel
theorem dX7_distanceAbove_4 : decode cX7_distanceAbove 4 = .ok (.istore_n 3, 1) := by decide +kernel
theorem dX7_distanceAbove_5 : decode cX7_distanceAbove 5 = .ok (.iload_n 3, 1) := by decide +kernel
theorem dX7_distanceAbove_6 : decode cX7_distanceAbove 6 = .ok (.aload_n 0, 1) := by decide +kernel
theorem dX7_distanceAbove_7 : decode cX7_distanceAbove 7 = .ok (.getfield 22, 3) := by decide +kernel
theorem dX7_distanceAbove_10 : decode cX7_distanceAbove 10 = .ok (.if_icmp .ge 54, 3) := by decide +kernel
theorem dX7_distanceAbove_13 : decode cX7_distanceAbove 13 = .ok (.iconst 0, 1) := by decide +kernel
theorem dX7_distanceAbove_14 : decode cX7_distanceAbove 14 = .ok (.istore 4, 2) := by decide +kernel
theorem dX7_distanceAbove_16 : decode cX7_distanceAbove 16 = .ok (.iload 4, 2) := by decide +kernel
theorem dX7_distanceAbove_18 : decode cX7_distanceAbove 18 = .ok (.aload_n 0, 1) := by decide +kernel
theorem dX7_distanceAbove_19 : decode cX7_distanceAbove 19 = .ok (.getfield 22, 3) := by decide +kernel
theorem dX7_distanceAbove_22 : decode cX7_distanceAbove 22 = .ok (.if_icmp .ge 36, 3) := by decide +kernel
theorem dX7_distanceAbove_25 : decode cX7_distanceAbove 25 = .ok (.aload_n 0, 1) := by decide +kernel
theorem dX7_distanceAbove_26 : decode cX7_distanceAbove 26 = .ok (.getfield 66, 3) := by decide +kernel
theorem dX7_distanceAbove_29 : decode cX7_distanceAbove 29 = .ok (.iload_n 3, 1) := by decide +kernel
theorem dX7_distanceAbove_30 : decode cX7_distanceAbove 30 = .ok (.aaload, 1) := by decide +kernel
theorem dX7_distanceAbove_31 : decode cX7_distanceAbove 31 = .ok (.iload 4, 2) := by decide +kernel
theorem dX7_distanceAbove_33 : decode cX7_distanceAbove 33 = .ok (.iaload, 1) := by decide +kernel
theorem dX7_distanceAbove_34 : decode cX7_distanceAbove 34 = .ok (.iload_n 1, 1) := by decide +kernel
theorem dX7_distanceAbove_35 : decode cX7_distanceAbove 35 = .ok (.if_icmp .le 17, 3) := by decide +kernel
theorem dX7_distanceAbove_38 : decode cX7_distanceAbove 38 = .ok (.iload_n 2, 1) := by decide +kernel
theorem dX7_distanceAbove_39 : decode cX7_distanceAbove 39 = .ok (.aload_n 0, 1) := by decide +kernel
theorem dX7_distanceAbove_40 : decode cX7_distanceAbove 40 = .ok (.getfield 66, 3) := by decide +kernel
theorem dX7_distanceAbove_43 : decode cX7_distanceAbove 43 = .ok (.iload_n 3, 1) := by decide +kernel
theorem dX7_distanceAbove_44 : decode cX7_distanceAbove 44 = .ok (.aaload, 1) := by decide +kernel
theorem dX7_distanceAbove_45 : decode cX7_distanceAbove 45 = .ok (.iload 4, 2) := by decide +kernel
theorem dX7_distanceAbove_47 : decode cX7_distanceAbove 47 = .ok (.iaload, 1) := by decide +kernel
theorem dX7_distanceAbove_48 : decode cX7_distanceAbove 48 = .ok (.invokestatic 75, 3) := by decide +kernel
theorem dX7_distanceAbove_51 : decode cX7_distanceAbove 51 = .ok (.istore_n 2, 1) := by decide +kernel
theorem dX7_distanceAbove_52 : decode cX7_distanceAbove 52 = .ok (.iinc 4 1, 3) := by decide +kernel
theorem dX7_distanceAbove_55 : decode cX7_distanceAbove 55 = .ok (.goto (-39), 3) := by decide +kernel
theorem dX7_distanceAbove_58 : decode cX7_distanceAbove 58 = .ok (.iinc 3 1, 3) := by decide +kernel
theorem dX7_distanceAbove_61 : decode cX7_distanceAbove 61 = .ok (.goto (-56), 3) := by decide +kernel
theorem dX7_distanceAbove_64 : decode cX7_distanceAbove 64 = .ok (.iload_n 2, 1) := by decide +kernel
theorem dX7_distanceAbove_65 : decode cX7_distanceAbove 65 = .ok (.ireturn, 1) := by decide +kernel
theorem dX8_init_0 : decode cX8_init 0 = .ok (.aload_n 0, 1) := by decide +kernel
theorem dX8_init_1 : decode cX8_init 1 = .ok (.invokespecial 3, 3) := by decide +kernel
theorem dX8_init_4 : decode cX8_init 4 = .ok (.aload_n 0, 1) := by decide +kernel
theorem dX8_init_5 : decode cX8_init 5 = .ok (.new 9, 3) := by decide +kernel
theorem dX8_init_8 : decode cX8_init 8 = .ok (.dup, 1) := by decide +kernel
theorem dX8_init_9 : decode cX8_init 9 = .ok (.invokespecial 11, 3) := by decide +kernel
theorem dX8_init_12 : decode cX8_init 12 = .ok (.putfield 12, 3) := by decide +kernel
theorem dX8_init_15 : decode cX8_init 15 = .ok (.aload_n 0, 1) := by decide +kernel
theorem dX8_init_16 : decode cX8_init 16 = .ok (.new 16, 3) := by decide +kernel
theorem dX8_init_19 : decode cX8_init 19 = .ok (.dup, 1) := by decide +kernel
theorem dX8_init_20 : decode cX8_init 20 = .ok (.invokespecial 18, 3) := by decide +kernel
theorem dX8_init_23 : decode cX8_init 23 = .ok (.putfield 19, 3) := by decide +kernel
theorem dX8_init_26 : decode cX8_init 26 = .ok (.aload_n 0, 1) := by decide +kernel
theorem dX8_init_27 : decode cX8_init 27 = .ok (.new 23, 3) := by decide +kernel
theorem dX8_init_30 : decode cX8_init 30 = .ok (.dup, 1) := by decide +kernel
theorem dX8_init_31 : decode cX8_init 31 = .ok (.invokespecial 25, 3) := by decide +kernel
theorem dX8_init_34 : decode cX8_init 34 = .ok (.putfield 26, 3) := by decide +kernel
theorem dX8_init_37 : decode cX8_init 37 = .ok (.aload_n 0, 1) := by decide +kernel
theorem dX8_init_38 : decode cX8_init 38 = .ok (.new 30, 3) := by decide +kernel
theorem dX8_init_41 : decode cX8_init 41 = .ok (.dup, 1) := by decide +kernel
theorem dX8_init_42 : decode cX8_init 42 = .ok (.invokespecial 32, 3) := by decide +kernel
theorem dX8_init_45 : decode cX8_init 45 = .ok (.putfield 33, 3) := by decide +kernel
theorem dX8_init_48 : decode cX8_init 48 = .ok (.aload_n 0, 1) := by decide +kernel
theorem dX8_init_49 : decode cX8_init 49 = .ok (.new 37, 3) := by decide +kernel
theorem dX8_init_52 : decode cX8_init 52 = .ok (.dup, 1) := by decide +kernel
theorem dX8_init_53 : decode cX8_init 53 = .ok (.invokespecial 39, 3) := by decide +kernel
theorem dX8_init_56 : decode cX8_init 56 = .ok (.putfield 40, 3) := by decide +kernel
theorem dX8_init_59 : decode cX8_init 59 = .ok (.aload_n 0, 1) := by decide +kernel
theorem dX8_init_60 : decode cX8_init 60 = .ok (.new 44, 3) := by decide +kernel
theorem dX8_init_63 : decode cX8_init 63 = .ok (.dup, 1) := by decide +kernel
theorem dX8_init_64 : decode cX8_init 64 = .ok (.invokespecial 46, 3) := by decide +kernel
theorem dX8_init_67 : decode cX8_init 67 = .ok (.putfield 47, 3) := by decide +kernel
theorem dX8_init_70 : decode cX8_init 70 = .ok (.aload_n 0, 1) := by decide +kernel
theorem dX8_init_71 : decode cX8_init 71 = .ok (.new 51, 3) := by decide +kernel
theorem dX8_init_74 : decode cX8_init 74 = .ok (.dup, 1) := by decide +kernel
theorem dX8_init_75 : decode cX8_init 75 = .ok (.invokespecial 53, 3) := by decide +kernel
theorem dX8_init_78 : decode cX8_init 78 = .ok (.putfield 54, 3) := by decide +kernel
theorem dX8_init_81 : decode cX8_init 81 = .ok (.aload_n 0, 1) := by decide +kernel
theorem dX8_init_82 : decode cX8_init 82 = .ok (.iconst (-1), 1) := by decide +kernel
theorem dX8_init_83 : decode cX8_init 83 = .ok (.putfield 58, 3) := by decide +kernel
theorem dX8_init_86 : decode cX8_init 86 = .ok (.aload_n 0, 1) := by decide +kernel
theorem dX8_init_87 : decode cX8_init 87 = .ok (.iconst (-1), 1) := by decide +kernel
theorem dX8_init_88 : decode cX8_init 88 = .ok (.putfield 62, 3) := by decide +kernel
theorem dX8_init_91 : decode cX8_init 91 = .ok (.aload_n 0, 1) := by decide +kernel
theorem dX8_init_92 : decode cX8_init 92 = .ok (.iconst (-1), 1) := by decide +kernel
theorem dX8_init_93 : decode cX8_init 93 = .ok (.putfield 65, 3) := by decide +kernel
theorem dX8_init_96 : decode cX8_init 96 = .ok (.aload_n 0, 1) := by decide +kernel
theorem dX8_init_97 : decode cX8_init 97 = .ok (.iconst (-1), 1) := by decide +kernel
theorem dX8_init_98 : decode cX8_init 98 = .ok (.putfield 68, 3) := by decide +kernel
theorem dX8_init_101 : decode cX8_init 101 = .ok (.aload_n 0, 1) := by decide +kernel
theorem dX8_init_102 : decode cX8_init 102 = .ok (.iconst 0, 1) := by decide +kernel
theorem dX8_init_103 : decode cX8_init 103 = .ok (.putfield 71, 3) := by decide +kernel
theorem dX8_init_106 : decode cX8_init 106 = .ok (.return_, 1) := by decide +kernel
theorem dX8_place_0 : decode cX8_place 0 = .ok (.aload_n 0, 1) := by decide +kernel
theorem dX8_place_1 : decode cX8_place 1 = .ok (.getfield 12, 3) := by decide +kernel
theorem dX8_place_4 : decode cX8_place 4 = .ok (.getfield 74, 3) := by decide +kernel
theorem dX8_place_7 : decode cX8_place 7 = .ok (.bipush 10, 2) := by decide +kernel
theorem dX8_place_9 : decode cX8_place 9 = .ok (.if_icmp .lt 6, 3) := by decide +kernel
theorem dX8_place_12 : decode cX8_place 12 = .ok (.bipush (-5), 2) := by decide +kernel
theorem dX8_place_14 : decode cX8_place 14 = .ok (.ireturn, 1) := by decide +kernel
theorem dX8_place_15 : decode cX8_place 15 = .ok (.aload_n 0, 1) := by decide +kernel
theorem dX8_place_16 : decode cX8_place 16 = .ok (.getfield 12, 3) := by decide +kernel
theorem dX8_place_19 : decode cX8_place 19 = .ok (.invokevirtual 77, 3) := by decide +kernel
theorem dX8_place_22 : decode cX8_place 22 = .ok (.istore_n 1, 1) := by decide +kernel
theorem dX8_place_23 : decode cX8_place 23 = .ok (.aload_n 0, 1) := by decide +kernel
theorem dX8_place_24 : decode cX8_place 24 = .ok (.iconst 0, 1) := by decide +kernel
theorem dX8_place_25 : decode cX8_place 25 = .ok (.iload_n 1, 1) := by decide +kernel
theorem dX8_place_26 : decode cX8_place 26 = .ok (.iconst (-1), 1) := by decide +kernel
theorem dX8_place_27 : decode cX8_place 27 = .ok (.iconst (-1), 1) := by decide +kernel
theorem dX8_place_28 : decode cX8_place 28 = .ok (.invokevirtual 81, 3) := by decide +kernel
theorem dX8_place_31 : decode cX8_place 31 = .ok (.iload_n 1, 1) := by decide +kernel
theorem dX8_place_32 : decode cX8_place 32 = .ok (.ireturn, 1) := by decide +kernel
theorem dX8_road_0 : decode cX8_road 0 = .ok (.aload_n 0, 1) := by decide +kernel
theorem dX8_road_1 : decode cX8_road 1 = .ok (.getfield 12, 3) := by decide +kernel
theorem dX8_road_4 : decode cX8_road 4 = .ok (.iload_n 1, 1) := by decide +kernel
theorem dX8_road_5 : decode cX8_road 5 = .ok (.invokevirtual 85, 3) := by decide +kernel
theorem dX8_road_8 : decode cX8_road 8 = .ok (.ifCond .eq 14, 3) := by decide +kernel
theorem dX8_road_11 : decode cX8_road 11 = .ok (.aload_n 0, 1) := by decide +kernel
theorem dX8_road_12 : decode cX8_road 12 = .ok (.getfield 12, 3) := by decide +kernel
theorem dX8_road_15 : decode cX8_road 15 = .ok (.iload_n 2, 1) := by decide +kernel
theorem dX8_road_16 : decode cX8_road 16 = .ok (.invokevirtual 85, 3) := by decide +kernel
theorem dX8_road_19 : decode cX8_road 19 = .ok (.ifCond .ne 6, 3) := by decide +kernel
theorem dX8_road_22 : decode cX8_road 22 = .ok (.bipush (-2), 2) := by decide +kernel
theorem dX8_road_24 : decode cX8_road 24 = .ok (.ireturn, 1) := by decide +kernel
theorem dX8_road_25 : decode cX8_road 25 = .ok (.iload_n 3, 1) := by decide +kernel
theorem dX8_road_26 : decode cX8_road 26 = .ok (.iconst 1, 1) := by decide +kernel
theorem dX8_road_27 : decode cX8_road 27 = .ok (.if_icmp .lt 15, 3) := by decide +kernel
theorem dX8_road_30 : decode cX8_road 30 = .ok (.iload_n 3, 1) := by decide +kernel
theorem dX8_road_31 : decode cX8_road 31 = .ok (.sipush 1000, 3) := by decide +kernel
theorem dX8_road_34 : decode cX8_road 34 = .ok (.if_icmp .gt 8, 3) := by decide +kernel
theorem dX8_road_37 : decode cX8_road 37 = .ok (.iload_n 1, 1) := by decide +kernel
theorem dX8_road_38 : decode cX8_road 38 = .ok (.iload_n 2, 1) := by decide +kernel
theorem dX8_road_39 : decode cX8_road 39 = .ok (.if_icmp .ne 6, 3) := by decide +kernel
theorem dX8_road_42 : decode cX8_road 42 = .ok (.bipush (-3), 2) := by decide +kernel
theorem dX8_road_44 : decode cX8_road 44 = .ok (.ireturn, 1) := by decide +kernel
theorem dX8_road_45 : decode cX8_road 45 = .ok (.aload_n 0, 1) := by decide +kernel
theorem dX8_road_46 : decode cX8_road 46 = .ok (.getfield 12, 3) := by decide +kernel
theorem dX8_road_49 : decode cX8_road 49 = .ok (.getfield 89, 3) := by decide +kernel
theorem dX8_road_52 : decode cX8_road 52 = .ok (.bipush 30, 2) := by decide +kernel
theorem dX8_road_54 : decode cX8_road 54 = .ok (.if_icmp .lt 6, 3) := by decide +kernel
theorem dX8_road_57 : decode cX8_road 57 = .ok (.bipush (-5), 2) := by decide +kernel
theorem dX8_road_59 : decode cX8_road 59 = .ok (.ireturn, 1) := by decide +kernel
theorem dX8_road_60 : decode cX8_road 60 = .ok (.aload_n 0, 1) := by decide +kernel
theorem dX8_road_61 : decode cX8_road 61 = .ok (.getfield 12, 3) := by decide +kernel
theorem dX8_road_64 : decode cX8_road 64 = .ok (.iload_n 1, 1) := by decide +kernel
theorem dX8_road_65 : decode cX8_road 65 = .ok (.iload_n 2, 1) := by decide +kernel
theorem dX8_road_66 : decode cX8_road 66 = .ok (.iload_n 3, 1) := by decide +kernel
theorem dX8_road_67 : decode cX8_road 67 = .ok (.invokevirtual 92, 3) := by decide +kernel
theorem dX8_road_70 : decode cX8_road 70 = .ok (.istore 4, 2) := by decide +kernel
theorem dX8_road_72 : decode cX8_road 72 = .ok (.aload_n 0, 1) := by decide +kernel
theorem dX8_road_73 : decode cX8_road 73 = .ok (.iconst 1, 1) := by decide +kernel
theorem dX8_road_74 : decode cX8_road 74 = .ok (.iload 4, 2) := by decide +kernel
theorem dX8_road_76 : decode cX8_road 76 = .ok (.iconst (-1), 1) := by decide +kernel
theorem dX8_road_77 : decode cX8_road 77 = .ok (.iconst (-1), 1) := by decide +kernel
theorem dX8_road_78 : decode cX8_road 78 = .ok (.invokevirtual 81, 3) := by decide +kernel
theorem dX8_road_81 : decode cX8_road 81 = .ok (.iload 4, 2) := by decide +kernel
theorem dX8_road_83 : decode cX8_road 83 = .ok (.ireturn, 1) := by decide +kernel
theorem dX8_heap_0 : decode cX8_heap 0 = .ok (.aload_n 0, 1) := by decide +kernel
theorem dX8_heap_1 : decode cX8_heap 1 = .ok (.getfield 19, 3) := by decide +kernel
theorem dX8_heap_4 : decode cX8_heap 4 = .ok (.getfield 96, 3) := by decide +kernel
theorem dX8_heap_7 : decode cX8_heap 7 = .ok (.bipush 8, 2) := by decide +kernel
theorem dX8_heap_9 : decode cX8_heap 9 = .ok (.if_icmp .lt 6, 3) := by decide +kernel
theorem dX8_heap_12 : decode cX8_heap 12 = .ok (.bipush (-5), 2) := by decide +kernel
theorem dX8_heap_14 : decode cX8_heap 14 = .ok (.ireturn, 1) := by decide +kernel
theorem dX8_heap_15 : decode cX8_heap 15 = .ok (.aload_n 0, 1) := by decide +kernel
theorem dX8_heap_16 : decode cX8_heap 16 = .ok (.getfield 19, 3) := by decide +kernel
theorem dX8_heap_19 : decode cX8_heap 19 = .ok (.getfield 96, 3) := by decide +kernel
theorem dX8_heap_22 : decode cX8_heap 22 = .ok (.istore_n 1, 1) := by decide +kernel
theorem dX8_heap_23 : decode cX8_heap 23 = .ok (.aload_n 0, 1) := by decide +kernel
theorem dX8_heap_24 : decode cX8_heap 24 = .ok (.getfield 19, 3) := by decide +kernel
theorem dX8_heap_27 : decode cX8_heap 27 = .ok (.dup, 1) := by decide +kernel
theorem dX8_heap_28 : decode cX8_heap 28 = .ok (.getfield 96, 3) := by decide +kernel
theorem dX8_heap_31 : decode cX8_heap 31 = .ok (.iconst 1, 1) := by decide +kernel
theorem dX8_heap_32 : decode cX8_heap 32 = .ok (.iadd, 1) := by decide +kernel
theorem dX8_heap_33 : decode cX8_heap 33 = .ok (.putfield 96, 3) := by decide +kernel
theorem dX8_heap_36 : decode cX8_heap 36 = .ok (.aload_n 0, 1) := by decide +kernel
theorem dX8_heap_37 : decode cX8_heap 37 = .ok (.iconst 2, 1) := by decide +kernel
theorem dX8_heap_38 : decode cX8_heap 38 = .ok (.iload_n 1, 1) := by decide +kernel
theorem dX8_heap_39 : decode cX8_heap 39 = .ok (.iconst (-1), 1) := by decide +kernel
theorem dX8_heap_40 : decode cX8_heap 40 = .ok (.iconst (-1), 1) := by decide +kernel
theorem dX8_heap_41 : decode cX8_heap 41 = .ok (.invokevirtual 81, 3) := by decide +kernel
theorem dX8_heap_44 : decode cX8_heap 44 = .ok (.iload_n 1, 1) := by decide +kernel
theorem dX8_heap_45 : decode cX8_heap 45 = .ok (.ireturn, 1) := by decide +kernel
theorem dX8_set_0 : decode cX8_set 0 = .ok (.aload_n 0, 1) := by decide +kernel
theorem dX8_set_1 : decode cX8_set 1 = .ok (.getfield 19, 3) := by decide +kernel
theorem dX8_set_4 : decode cX8_set 4 = .ok (.iload_n 1, 1) := by decide +kernel
theorem dX8_set_5 : decode cX8_set 5 = .ok (.invokevirtual 99, 3) := by decide +kernel
theorem dX8_set_8 : decode cX8_set 8 = .ok (.ifCond .eq 14, 3) := by decide +kernel
theorem dX8_set_11 : decode cX8_set 11 = .ok (.aload_n 0, 1) := by decide +kernel
theorem dX8_set_12 : decode cX8_set 12 = .ok (.getfield 12, 3) := by decide +kernel
theorem dX8_set_15 : decode cX8_set 15 = .ok (.iload_n 2, 1) := by decide +kernel
theorem dX8_set_16 : decode cX8_set 16 = .ok (.invokevirtual 85, 3) := by decide +kernel
theorem dX8_set_19 : decode cX8_set 19 = .ok (.ifCond .ne 6, 3) := by decide +kernel
theorem dX8_set_22 : decode cX8_set 22 = .ok (.bipush (-2), 2) := by decide +kernel
theorem dX8_set_24 : decode cX8_set 24 = .ok (.ireturn, 1) := by decide +kernel
theorem dX8_set_25 : decode cX8_set 25 = .ok (.iload_n 3, 1) := by decide +kernel
theorem dX8_set_26 : decode cX8_set 26 = .ok (.ifCond .lt 10, 3) := by decide +kernel
theorem dX8_set_29 : decode cX8_set 29 = .ok (.iload_n 3, 1) := by decide +kernel
theorem dX8_set_30 : decode cX8_set 30 = .ok (.sipush 1000, 3) := by decide +kernel
theorem dX8_set_33 : decode cX8_set 33 = .ok (.if_icmp .le 6, 3) := by decide +kernel
theorem dX8_set_36 : decode cX8_set 36 = .ok (.bipush (-3), 2) := by decide +kernel
theorem dX8_set_38 : decode cX8_set 38 = .ok (.ireturn, 1) := by decide +kernel
theorem dX8_set_39 : decode cX8_set 39 = .ok (.aload_n 0, 1) := by decide +kernel
theorem dX8_set_40 : decode cX8_set 40 = .ok (.getfield 19, 3) := by decide +kernel
theorem dX8_set_43 : decode cX8_set 43 = .ok (.getfield 100, 3) := by decide +kernel
theorem dX8_set_46 : decode cX8_set 46 = .ok (.iload_n 1, 1) := by decide +kernel
theorem dX8_set_47 : decode cX8_set 47 = .ok (.aaload, 1) := by decide +kernel
theorem dX8_set_48 : decode cX8_set 48 = .ok (.iload_n 2, 1) := by decide +kernel
theorem dX8_set_49 : decode cX8_set 49 = .ok (.iaload, 1) := by decide +kernel
theorem dX8_set_50 : decode cX8_set 50 = .ok (.istore 4, 2) := by decide +kernel
theorem dX8_set_52 : decode cX8_set 52 = .ok (.aload_n 0, 1) := by decide +kernel
theorem dX8_set_53 : decode cX8_set 53 = .ok (.getfield 19, 3) := by decide +kernel
theorem dX8_set_56 : decode cX8_set 56 = .ok (.getfield 100, 3) := by decide +kernel
theorem dX8_set_59 : decode cX8_set 59 = .ok (.iload_n 1, 1) := by decide +kernel
theorem dX8_set_60 : decode cX8_set 60 = .ok (.aaload, 1) := by decide +kernel
theorem dX8_set_61 : decode cX8_set 61 = .ok (.iload_n 2, 1) := by decide +kernel
theorem dX8_set_62 : decode cX8_set 62 = .ok (.iload_n 3, 1) := by decide +kernel
theorem dX8_set_63 : decode cX8_set 63 = .ok (.iastore, 1) := by decide +kernel
theorem dX8_set_64 : decode cX8_set 64 = .ok (.aload_n 0, 1) := by decide +kernel
theorem dX8_set_65 : decode cX8_set 65 = .ok (.iconst 3, 1) := by decide +kernel
theorem dX8_set_66 : decode cX8_set 66 = .ok (.iload_n 1, 1) := by decide +kernel
theorem dX8_set_67 : decode cX8_set 67 = .ok (.iload_n 2, 1) := by decide +kernel
theorem dX8_set_68 : decode cX8_set 68 = .ok (.iload 4, 2) := by decide +kernel
theorem dX8_set_70 : decode cX8_set 70 = .ok (.invokevirtual 81, 3) := by decide +kernel
theorem dX8_set_73 : decode cX8_set 73 = .ok (.iload 4, 2) := by decide +kernel
theorem dX8_set_75 : decode cX8_set 75 = .ok (.ireturn, 1) := by decide +kernel
theorem dX8_gate_0 : decode cX8_gate 0 = .ok (.aload_n 0, 1) := by decide +kernel
theorem dX8_gate_1 : decode cX8_gate 1 = .ok (.getfield 12, 3) := by decide +kernel
theorem dX8_gate_4 : decode cX8_gate 4 = .ok (.iload_n 1, 1) := by decide +kernel
theorem dX8_gate_5 : decode cX8_gate 5 = .ok (.invokevirtual 85, 3) := by decide +kernel
theorem dX8_gate_8 : decode cX8_gate 8 = .ok (.ifCond .ne 6, 3) := by decide +kernel
theorem dX8_gate_11 : decode cX8_gate 11 = .ok (.bipush (-2), 2) := by decide +kernel
theorem dX8_gate_13 : decode cX8_gate 13 = .ok (.ireturn, 1) := by decide +kernel
theorem dX8_gate_14 : decode cX8_gate 14 = .ok (.iload_n 2, 1) := by decide +kernel
theorem dX8_gate_15 : decode cX8_gate 15 = .ok (.iconst (-1), 1) := by decide +kernel
theorem dX8_gate_16 : decode cX8_gate 16 = .ok (.if_icmp .lt 9, 3) := by decide +kernel
theorem dX8_gate_19 : decode cX8_gate 19 = .ok (.iload_n 2, 1) := by decide +kernel
theorem dX8_gate_20 : decode cX8_gate 20 = .ok (.ldc 104, 2) := by decide +kernel
theorem dX8_gate_22 : decode cX8_gate 22 = .ok (.if_icmp .le 6, 3) := by decide +kernel
theorem dX8_gate_25 : decode cX8_gate 25 = .ok (.bipush (-3), 2) := by decide +kernel
theorem dX8_gate_27 : decode cX8_gate 27 = .ok (.ireturn, 1) := by decide +kernel
theorem dX8_gate_28 : decode cX8_gate 28 = .ok (.aload_n 0, 1) := by decide +kernel
theorem dX8_gate_29 : decode cX8_gate 29 = .ok (.getfield 12, 3) := by decide +kernel
theorem dX8_gate_32 : decode cX8_gate 32 = .ok (.getfield 105, 3) := by decide +kernel
theorem dX8_gate_35 : decode cX8_gate 35 = .ok (.iload_n 1, 1) := by decide +kernel
theorem dX8_gate_36 : decode cX8_gate 36 = .ok (.iaload, 1) := by decide +kernel
theorem dX8_gate_37 : decode cX8_gate 37 = .ok (.istore_n 3, 1) := by decide +kernel
theorem dX8_gate_38 : decode cX8_gate 38 = .ok (.aload_n 0, 1) := by decide +kernel
theorem dX8_gate_39 : decode cX8_gate 39 = .ok (.getfield 12, 3) := by decide +kernel
theorem dX8_gate_42 : decode cX8_gate 42 = .ok (.getfield 105, 3) := by decide +kernel
theorem dX8_gate_45 : decode cX8_gate 45 = .ok (.iload_n 1, 1) := by decide +kernel
theorem dX8_gate_46 : decode cX8_gate 46 = .ok (.iload_n 2, 1) := by decide +kernel
theorem dX8_gate_47 : decode cX8_gate 47 = .ok (.iastore, 1) := by decide +kernel
theorem dX8_gate_48 : decode cX8_gate 48 = .ok (.aload_n 0, 1) := by decide +kernel
theorem dX8_gate_49 : decode cX8_gate 49 = .ok (.iconst 4, 1) := by decide +kernel
theorem dX8_gate_50 : decode cX8_gate 50 = .ok (.iload_n 1, 1) := by decide +kernel
theorem dX8_gate_51 : decode cX8_gate 51 = .ok (.iconst (-1), 1) := by decide +kernel
theorem dX8_gate_52 : decode cX8_gate 52 = .ok (.iload_n 3, 1) := by decide +kernel
theorem dX8_gate_53 : decode cX8_gate 53 = .ok (.invokevirtual 81, 3) := by decide +kernel
theorem dX8_gate_56 : decode cX8_gate 56 = .ok (.iload_n 3, 1) := by decide +kernel
theorem dX8_gate_57 : decode cX8_gate 57 = .ok (.ireturn, 1) := by decide +kernel
theorem dX8_undo_0 : decode cX8_undo 0 = .ok (.aload_n 0, 1) := by decide +kernel
theorem dX8_undo_1 : decode cX8_undo 1 = .ok (.getfield 26, 3) := by decide +kernel
theorem dX8_undo_4 : decode cX8_undo 4 = .ok (.getfield 109, 3) := by decide +kernel
theorem dX8_undo_7 : decode cX8_undo 7 = .ok (.ifCond .ne 6, 3) := by decide +kernel
theorem dX8_undo_10 : decode cX8_undo 10 = .ok (.bipush (-4), 2) := by decide +kernel
theorem dX8_undo_12 : decode cX8_undo 12 = .ok (.ireturn, 1) := by decide +kernel
theorem dX8_undo_13 : decode cX8_undo 13 = .ok (.aload_n 0, 1) := by decide +kernel
theorem dX8_undo_14 : decode cX8_undo 14 = .ok (.aload_n 0, 1) := by decide +kernel
theorem dX8_undo_15 : decode cX8_undo 15 = .ok (.getfield 26, 3) := by decide +kernel
theorem dX8_undo_18 : decode cX8_undo 18 = .ok (.invokevirtual 112, 3) := by decide +kernel
theorem dX8_undo_21 : decode cX8_undo 21 = .ok (.invokevirtual 115, 3) := by decide +kernel
theorem dX8_undo_24 : decode cX8_undo 24 = .ok (.aload_n 0, 1) := by decide +kernel
theorem dX8_undo_25 : decode cX8_undo 25 = .ok (.invokevirtual 119, 3) := by decide +kernel
theorem dX8_undo_28 : decode cX8_undo 28 = .ok (.aload_n 0, 1) := by decide +kernel
theorem dX8_undo_29 : decode cX8_undo 29 = .ok (.getfield 26, 3) := by decide +kernel
theorem dX8_undo_32 : decode cX8_undo 32 = .ok (.getfield 109, 3) := by decide +kernel
theorem dX8_undo_35 : decode cX8_undo 35 = .ok (.ireturn, 1) := by decide +kernel
theorem dX8_apart_0 : decode cX8_apart 0 = .ok (.aload_n 0, 1) := by decide +kernel
theorem dX8_apart_1 : decode cX8_apart 1 = .ok (.getfield 12, 3) := by decide +kernel
theorem dX8_apart_4 : decode cX8_apart 4 = .ok (.iload_n 1, 1) := by decide +kernel
theorem dX8_apart_5 : decode cX8_apart 5 = .ok (.invokevirtual 85, 3) := by decide +kernel
theorem dX8_apart_8 : decode cX8_apart 8 = .ok (.ifCond .eq 14, 3) := by decide +kernel
theorem dX8_apart_11 : decode cX8_apart 11 = .ok (.aload_n 0, 1) := by decide +kernel
theorem dX8_apart_12 : decode cX8_apart 12 = .ok (.getfield 12, 3) := by decide +kernel
theorem dX8_apart_15 : decode cX8_apart 15 = .ok (.iload_n 2, 1) := by decide +kernel
theorem dX8_apart_16 : decode cX8_apart 16 = .ok (.invokevirtual 85, 3) := by decide +kernel
theorem dX8_apart_19 : decode cX8_apart 19 = .ok (.ifCond .ne 6, 3) := by decide +kernel
theorem dX8_apart_22 : decode cX8_apart 22 = .ok (.bipush (-2), 2) := by decide +kernel
theorem dX8_apart_24 : decode cX8_apart 24 = .ok (.ireturn, 1) := by decide +kernel
theorem dX8_apart_25 : decode cX8_apart 25 = .ok (.aload_n 0, 1) := by decide +kernel
theorem dX8_apart_26 : decode cX8_apart 26 = .ok (.getfield 12, 3) := by decide +kernel
theorem dX8_apart_29 : decode cX8_apart 29 = .ok (.getfield 122, 3) := by decide +kernel
theorem dX8_apart_32 : decode cX8_apart 32 = .ok (.iload_n 1, 1) := by decide +kernel
theorem dX8_apart_33 : decode cX8_apart 33 = .ok (.aaload, 1) := by decide +kernel
theorem dX8_apart_34 : decode cX8_apart 34 = .ok (.iload_n 2, 1) := by decide +kernel
theorem dX8_apart_35 : decode cX8_apart 35 = .ok (.iaload, 1) := by decide +kernel
theorem dX8_apart_36 : decode cX8_apart 36 = .ok (.istore_n 3, 1) := by decide +kernel
theorem dX8_apart_37 : decode cX8_apart 37 = .ok (.iload_n 3, 1) := by decide +kernel
theorem dX8_apart_38 : decode cX8_apart 38 = .ok (.ldc 125, 2) := by decide +kernel
theorem dX8_apart_40 : decode cX8_apart 40 = .ok (.if_icmp .ne 7, 3) := by decide +kernel
theorem dX8_apart_43 : decode cX8_apart 43 = .ok (.iconst (-1), 1) := by decide +kernel
theorem dX8_apart_44 : decode cX8_apart 44 = .ok (.goto 4, 3) := by decide +kernel
theorem dX8_apart_47 : decode cX8_apart 47 = .ok (.iload_n 3, 1) := by decide +kernel
theorem dX8_apart_48 : decode cX8_apart 48 = .ok (.ireturn, 1) := by decide +kernel
theorem dX8_next_0 : decode cX8_next 0 = .ok (.aload_n 0, 1) := by decide +kernel
theorem dX8_next_1 : decode cX8_next 1 = .ok (.getfield 12, 3) := by decide +kernel
theorem dX8_next_4 : decode cX8_next 4 = .ok (.iload_n 1, 1) := by decide +kernel
theorem dX8_next_5 : decode cX8_next 5 = .ok (.invokevirtual 85, 3) := by decide +kernel
theorem dX8_next_8 : decode cX8_next 8 = .ok (.ifCond .eq 14, 3) := by decide +kernel
theorem dX8_next_11 : decode cX8_next 11 = .ok (.aload_n 0, 1) := by decide +kernel
theorem dX8_next_12 : decode cX8_next 12 = .ok (.getfield 12, 3) := by decide +kernel
theorem dX8_next_15 : decode cX8_next 15 = .ok (.iload_n 2, 1) := by decide +kernel
theorem dX8_next_16 : decode cX8_next 16 = .ok (.invokevirtual 85, 3) := by decide +kernel
theorem dX8_next_19 : decode cX8_next 19 = .ok (.ifCond .ne 6, 3) := by decide +kernel
theorem dX8_next_22 : decode cX8_next 22 = .ok (.bipush (-2), 2) := by decide +kernel
theorem dX8_next_24 : decode cX8_next 24 = .ok (.ireturn, 1) := by decide +kernel
theorem dX8_next_25 : decode cX8_next 25 = .ok (.aload_n 0, 1) := by decide +kernel
theorem dX8_next_26 : decode cX8_next 26 = .ok (.getfield 12, 3) := by decide +kernel
theorem dX8_next_29 : decode cX8_next 29 = .ok (.iload_n 1, 1) := by decide +kernel
theorem dX8_next_30 : decode cX8_next 30 = .ok (.iload_n 2, 1) := by decide +kernel
theorem dX8_next_31 : decode cX8_next 31 = .ok (.invokevirtual 126, 3) := by decide +kernel
theorem dX8_next_34 : decode cX8_next 34 = .ok (.ireturn, 1) := by decide +kernel
theorem dX8_amount_0 : decode cX8_amount 0 = .ok (.aload_n 0, 1) := by decide +kernel
theorem dX8_amount_1 : decode cX8_amount 1 = .ok (.getfield 19, 3) := by decide +kernel
theorem dX8_amount_4 : decode cX8_amount 4 = .ok (.iload_n 1, 1) := by decide +kernel
theorem dX8_amount_5 : decode cX8_amount 5 = .ok (.invokevirtual 99, 3) := by decide +kernel
theorem dX8_amount_8 : decode cX8_amount 8 = .ok (.ifCond .eq 14, 3) := by decide +kernel
theorem dX8_amount_11 : decode cX8_amount 11 = .ok (.aload_n 0, 1) := by decide +kernel
theorem dX8_amount_12 : decode cX8_amount 12 = .ok (.getfield 12, 3) := by decide +kernel
theorem dX8_amount_15 : decode cX8_amount 15 = .ok (.iload_n 2, 1) := by decide +kernel
theorem dX8_amount_16 : decode cX8_amount 16 = .ok (.invokevirtual 85, 3) := by decide +kernel
theorem dX8_amount_19 : decode cX8_amount 19 = .ok (.ifCond .ne 6, 3) := by decide +kernel
theorem dX8_amount_22 : decode cX8_amount 22 = .ok (.bipush (-2), 2) := by decide +kernel
theorem dX8_amount_24 : decode cX8_amount 24 = .ok (.ireturn, 1) := by decide +kernel
theorem dX8_amount_25 : decode cX8_amount 25 = .ok (.aload_n 0, 1) := by decide +kernel
theorem dX8_amount_26 : decode cX8_amount 26 = .ok (.getfield 19, 3) := by decide +kernel
theorem dX8_amount_29 : decode cX8_amount 29 = .ok (.getfield 100, 3) := by decide +kernel
theorem dX8_amount_32 : decode cX8_amount 32 = .ok (.iload_n 1, 1) := by decide +kernel
theorem dX8_amount_33 : decode cX8_amount 33 = .ok (.aaload, 1) := by decide +kernel
theorem dX8_amount_34 : decode cX8_amount 34 = .ok (.iload_n 2, 1) := by decide +kernel
theorem dX8_amount_35 : decode cX8_amount 35 = .ok (.iaload, 1) := by decide +kernel
theorem dX8_amount_36 : decode cX8_amount 36 = .ok (.ireturn, 1) := by decide +kernel
theorem dX8_sum_0 : decode cX8_sum 0 = .ok (.aload_n 0, 1) := by decide +kernel
theorem dX8_sum_1 : decode cX8_sum 1 = .ok (.getfield 19, 3) := by decide +kernel
theorem dX8_sum_4 : decode cX8_sum 4 = .ok (.iload_n 1, 1) := by decide +kernel
theorem dX8_sum_5 : decode cX8_sum 5 = .ok (.invokevirtual 99, 3) := by decide +kernel
theorem dX8_sum_8 : decode cX8_sum 8 = .ok (.ifCond .ne 6, 3) := by decide +kernel
theorem dX8_sum_11 : decode cX8_sum 11 = .ok (.bipush (-2), 2) := by decide +kernel
theorem dX8_sum_13 : decode cX8_sum 13 = .ok (.ireturn, 1) := by decide +kernel
theorem dX8_sum_14 : decode cX8_sum 14 = .ok (.aload_n 0, 1) := by decide +kernel
theorem dX8_sum_15 : decode cX8_sum 15 = .ok (.getfield 19, 3) := by decide +kernel
theorem dX8_sum_18 : decode cX8_sum 18 = .ok (.iload_n 1, 1) := by decide +kernel
theorem dX8_sum_19 : decode cX8_sum 19 = .ok (.invokevirtual 130, 3) := by decide +kernel
theorem dX8_sum_22 : decode cX8_sum 22 = .ok (.ireturn, 1) := by decide +kernel
theorem dX8_least_0 : decode cX8_least 0 = .ok (.aload_n 0, 1) := by decide +kernel
theorem dX8_least_1 : decode cX8_least 1 = .ok (.iload_n 1, 1) := by decide +kernel
theorem dX8_least_2 : decode cX8_least 2 = .ok (.iload_n 2, 1) := by decide +kernel
theorem dX8_least_3 : decode cX8_least 3 = .ok (.invokevirtual 134, 3) := by decide +kernel
theorem dX8_least_6 : decode cX8_least 6 = .ok (.istore_n 3, 1) := by decide +kernel
theorem dX8_least_7 : decode cX8_least 7 = .ok (.iload_n 3, 1) := by decide +kernel
theorem dX8_least_8 : decode cX8_least 8 = .ok (.ifCond .ne 12, 3) := by decide +kernel
theorem dX8_least_11 : decode cX8_least 11 = .ok (.aload_n 0, 1) := by decide +kernel
theorem dX8_least_12 : decode cX8_least 12 = .ok (.iload_n 1, 1) := by decide +kernel
theorem dX8_least_13 : decode cX8_least 13 = .ok (.iload_n 2, 1) := by decide +kernel
theorem dX8_least_14 : decode cX8_least 14 = .ok (.invokevirtual 137, 3) := by decide +kernel
theorem dX8_least_17 : decode cX8_least 17 = .ok (.goto 4, 3) := by decide +kernel
theorem dX8_least_20 : decode cX8_least 20 = .ok (.iload_n 3, 1) := by decide +kernel
theorem dX8_least_21 : decode cX8_least 21 = .ok (.ireturn, 1) := by decide +kernel
theorem dX8_plan_0 : decode cX8_plan 0 = .ok (.aload_n 0, 1) := by decide +kernel
theorem dX8_plan_1 : decode cX8_plan 1 = .ok (.iload_n 1, 1) := by decide +kernel
theorem dX8_plan_2 : decode cX8_plan 2 = .ok (.iload_n 2, 1) := by decide +kernel
theorem dX8_plan_3 : decode cX8_plan 3 = .ok (.iload_n 3, 1) := by decide +kernel
theorem dX8_plan_4 : decode cX8_plan 4 = .ok (.iload 4, 2) := by decide +kernel
theorem dX8_plan_6 : decode cX8_plan 6 = .ok (.invokevirtual 140, 3) := by decide +kernel
theorem dX8_plan_9 : decode cX8_plan 9 = .ok (.istore 5, 2) := by decide +kernel
theorem dX8_plan_11 : decode cX8_plan 11 = .ok (.iload 5, 2) := by decide +kernel
theorem dX8_plan_13 : decode cX8_plan 13 = .ok (.ifCond .eq 6, 3) := by decide +kernel
theorem dX8_plan_16 : decode cX8_plan 16 = .ok (.iload 5, 2) := by decide +kernel
theorem dX8_plan_18 : decode cX8_plan 18 = .ok (.ireturn, 1) := by decide +kernel
theorem dX8_plan_19 : decode cX8_plan 19 = .ok (.aload_n 0, 1) := by decide +kernel
theorem dX8_plan_20 : decode cX8_plan 20 = .ok (.iload_n 1, 1) := by decide +kernel
theorem dX8_plan_21 : decode cX8_plan 21 = .ok (.iload_n 2, 1) := by decide +kernel
theorem dX8_plan_22 : decode cX8_plan 22 = .ok (.invokevirtual 144, 3) := by decide +kernel
theorem dX8_plan_25 : decode cX8_plan 25 = .ok (.aload_n 0, 1) := by decide +kernel
theorem dX8_plan_26 : decode cX8_plan 26 = .ok (.getfield 47, 3) := by decide +kernel
theorem dX8_plan_29 : decode cX8_plan 29 = .ok (.getfield 148, 3) := by decide +kernel
theorem dX8_plan_32 : decode cX8_plan 32 = .ok (.iload_n 3, 1) := by decide +kernel
theorem dX8_plan_33 : decode cX8_plan 33 = .ok (.aaload, 1) := by decide +kernel
theorem dX8_plan_34 : decode cX8_plan 34 = .ok (.iload 4, 2) := by decide +kernel
theorem dX8_plan_36 : decode cX8_plan 36 = .ok (.iaload, 1) := by decide +kernel
theorem dX8_plan_37 : decode cX8_plan 37 = .ok (.ireturn, 1) := by decide +kernel
theorem dX8_alone_0 : decode cX8_alone 0 = .ok (.aload_n 0, 1) := by decide +kernel
theorem dX8_alone_1 : decode cX8_alone 1 = .ok (.iload_n 1, 1) := by decide +kernel
theorem dX8_alone_2 : decode cX8_alone 2 = .ok (.iload_n 2, 1) := by decide +kernel
theorem dX8_alone_3 : decode cX8_alone 3 = .ok (.invokevirtual 134, 3) := by decide +kernel
theorem dX8_alone_6 : decode cX8_alone 6 = .ok (.istore_n 3, 1) := by decide +kernel
theorem dX8_alone_7 : decode cX8_alone 7 = .ok (.iload_n 3, 1) := by decide +kernel
theorem dX8_alone_8 : decode cX8_alone 8 = .ok (.ifCond .eq 5, 3) := by decide +kernel
theorem dX8_alone_11 : decode cX8_alone 11 = .ok (.iload_n 3, 1) := by decide +kernel
theorem dX8_alone_12 : decode cX8_alone 12 = .ok (.ireturn, 1) := by decide +kernel
theorem dX8_alone_13 : decode cX8_alone 13 = .ok (.aload_n 0, 1) := by decide +kernel
theorem dX8_alone_14 : decode cX8_alone 14 = .ok (.iload_n 1, 1) := by decide +kernel
theorem dX8_alone_15 : decode cX8_alone 15 = .ok (.iload_n 2, 1) := by decide +kernel
theorem dX8_alone_16 : decode cX8_alone 16 = .ok (.invokevirtual 144, 3) := by decide +kernel
theorem dX8_alone_19 : decode cX8_alone 19 = .ok (.aload_n 0, 1) := by decide +kernel
theorem dX8_alone_20 : decode cX8_alone 20 = .ok (.getfield 47, 3) := by decide +kernel
theorem dX8_alone_23 : decode cX8_alone 23 = .ok (.aload_n 0, 1) := by decide +kernel
theorem dX8_alone_24 : decode cX8_alone 24 = .ok (.getfield 12, 3) := by decide +kernel
theorem dX8_alone_27 : decode cX8_alone 27 = .ok (.invokevirtual 151, 3) := by decide +kernel
theorem dX8_alone_30 : decode cX8_alone 30 = .ok (.ifCond .eq 7, 3) := by decide +kernel
theorem dX8_alone_33 : decode cX8_alone 33 = .ok (.iconst 0, 1) := by decide +kernel
theorem dX8_alone_34 : decode cX8_alone 34 = .ok (.goto 4, 3) := by decide +kernel
theorem dX8_alone_37 : decode cX8_alone 37 = .ok (.iconst 1, 1) := by decide +kernel
theorem dX8_alone_38 : decode cX8_alone 38 = .ok (.ireturn, 1) := by decide +kernel
theorem dX8_height_0 : decode cX8_height 0 = .ok (.aload_n 0, 1) := by decide +kernel
theorem dX8_height_1 : decode cX8_height 1 = .ok (.iload_n 1, 1) := by decide +kernel
theorem dX8_height_2 : decode cX8_height 2 = .ok (.iload_n 2, 1) := by decide +kernel
theorem dX8_height_3 : decode cX8_height 3 = .ok (.iload_n 3, 1) := by decide +kernel
theorem dX8_height_4 : decode cX8_height 4 = .ok (.iload_n 3, 1) := by decide +kernel
theorem dX8_height_5 : decode cX8_height 5 = .ok (.invokevirtual 140, 3) := by decide +kernel
theorem dX8_height_8 : decode cX8_height 8 = .ok (.ifCond .eq 6, 3) := by decide +kernel
theorem dX8_height_11 : decode cX8_height 11 = .ok (.ldc 155, 2) := by decide +kernel
theorem dX8_height_13 : decode cX8_height 13 = .ok (.ireturn, 1) := by decide +kernel
theorem dX8_height_14 : decode cX8_height 14 = .ok (.aload_n 0, 1) := by decide +kernel
theorem dX8_height_15 : decode cX8_height 15 = .ok (.iload_n 1, 1) := by decide +kernel
theorem dX8_height_16 : decode cX8_height 16 = .ok (.iload_n 2, 1) := by decide +kernel
theorem dX8_height_17 : decode cX8_height 17 = .ok (.invokevirtual 144, 3) := by decide +kernel
theorem dX8_height_20 : decode cX8_height 20 = .ok (.aload_n 0, 1) := by decide +kernel
theorem dX8_height_21 : decode cX8_height 21 = .ok (.getfield 47, 3) := by decide +kernel
theorem dX8_height_24 : decode cX8_height 24 = .ok (.getfield 156, 3) := by decide +kernel
theorem dX8_height_27 : decode cX8_height 27 = .ok (.iload_n 3, 1) := by decide +kernel
theorem dX8_height_28 : decode cX8_height 28 = .ok (.iaload, 1) := by decide +kernel
theorem dX8_height_29 : decode cX8_height 29 = .ok (.ireturn, 1) := by decide +kernel
theorem dX8_load_0 : decode cX8_load 0 = .ok (.aload_n 0, 1) := by decide +kernel
theorem dX8_load_1 : decode cX8_load 1 = .ok (.iload_n 1, 1) := by decide +kernel
theorem dX8_load_2 : decode cX8_load 2 = .ok (.iload_n 2, 1) := by decide +kernel
theorem dX8_load_3 : decode cX8_load 3 = .ok (.iload_n 3, 1) := by decide +kernel
theorem dX8_load_4 : decode cX8_load 4 = .ok (.iload 4, 2) := by decide +kernel
theorem dX8_load_6 : decode cX8_load 6 = .ok (.invokevirtual 140, 3) := by decide +kernel
theorem dX8_load_9 : decode cX8_load 9 = .ok (.istore 5, 2) := by decide +kernel
theorem dX8_load_11 : decode cX8_load 11 = .ok (.iload 5, 2) := by decide +kernel
theorem dX8_load_13 : decode cX8_load 13 = .ok (.ifCond .eq 6, 3) := by decide +kernel
theorem dX8_load_16 : decode cX8_load 16 = .ok (.iload 5, 2) := by decide +kernel
theorem dX8_load_18 : decode cX8_load 18 = .ok (.ireturn, 1) := by decide +kernel
theorem dX8_load_19 : decode cX8_load 19 = .ok (.aload_n 0, 1) := by decide +kernel
theorem dX8_load_20 : decode cX8_load 20 = .ok (.iload_n 1, 1) := by decide +kernel
theorem dX8_load_21 : decode cX8_load 21 = .ok (.iload_n 2, 1) := by decide +kernel
theorem dX8_load_22 : decode cX8_load 22 = .ok (.invokevirtual 144, 3) := by decide +kernel
theorem dX8_load_25 : decode cX8_load 25 = .ok (.aload_n 0, 1) := by decide +kernel
theorem dX8_load_26 : decode cX8_load 26 = .ok (.getfield 47, 3) := by decide +kernel
theorem dX8_load_29 : decode cX8_load 29 = .ok (.aload_n 0, 1) := by decide +kernel
theorem dX8_load_30 : decode cX8_load 30 = .ok (.getfield 12, 3) := by decide +kernel
theorem dX8_load_33 : decode cX8_load 33 = .ok (.iload_n 3, 1) := by decide +kernel
theorem dX8_load_34 : decode cX8_load 34 = .ok (.iload 4, 2) := by decide +kernel
theorem dX8_load_36 : decode cX8_load 36 = .ok (.invokevirtual 159, 3) := by decide +kernel
theorem dX8_load_39 : decode cX8_load 39 = .ok (.ireturn, 1) := by decide +kernel
theorem dX8_far_0 : decode cX8_far 0 = .ok (.aload_n 0, 1) := by decide +kernel
theorem dX8_far_1 : decode cX8_far 1 = .ok (.iload_n 1, 1) := by decide +kernel
theorem dX8_far_2 : decode cX8_far 2 = .ok (.iload_n 2, 1) := by decide +kernel
theorem dX8_far_3 : decode cX8_far 3 = .ok (.invokevirtual 134, 3) := by decide +kernel
theorem dX8_far_6 : decode cX8_far 6 = .ok (.istore_n 3, 1) := by decide +kernel
theorem dX8_far_7 : decode cX8_far 7 = .ok (.iload_n 3, 1) := by decide +kernel
theorem dX8_far_8 : decode cX8_far 8 = .ok (.ifCond .eq 5, 3) := by decide +kernel
theorem dX8_far_11 : decode cX8_far 11 = .ok (.iload_n 3, 1) := by decide +kernel
theorem dX8_far_12 : decode cX8_far 12 = .ok (.ireturn, 1) := by decide +kernel
theorem dX8_far_13 : decode cX8_far 13 = .ok (.aload_n 0, 1) := by decide +kernel
theorem dX8_far_14 : decode cX8_far 14 = .ok (.iload_n 1, 1) := by decide +kernel
theorem dX8_far_15 : decode cX8_far 15 = .ok (.iload_n 2, 1) := by decide +kernel
theorem dX8_far_16 : decode cX8_far 16 = .ok (.invokevirtual 163, 3) := by decide +kernel
theorem dX8_far_19 : decode cX8_far 19 = .ok (.aload_n 0, 1) := by decide +kernel
theorem dX8_far_20 : decode cX8_far 20 = .ok (.getfield 54, 3) := by decide +kernel
theorem dX8_far_23 : decode cX8_far 23 = .ok (.getfield 166, 3) := by decide +kernel
theorem dX8_far_26 : decode cX8_far 26 = .ok (.ireturn, 1) := by decide +kernel
theorem dX8_shown_0 : decode cX8_shown 0 = .ok (.aload_n 0, 1) := by decide +kernel
theorem dX8_shown_1 : decode cX8_shown 1 = .ok (.iload_n 1, 1) := by decide +kernel
theorem dX8_shown_2 : decode cX8_shown 2 = .ok (.iload_n 2, 1) := by decide +kernel
theorem dX8_shown_3 : decode cX8_shown 3 = .ok (.iload_n 3, 1) := by decide +kernel
theorem dX8_shown_4 : decode cX8_shown 4 = .ok (.iload_n 3, 1) := by decide +kernel
theorem dX8_shown_5 : decode cX8_shown 5 = .ok (.invokevirtual 140, 3) := by decide +kernel
theorem dX8_shown_8 : decode cX8_shown 8 = .ok (.istore 4, 2) := by decide +kernel
theorem dX8_shown_10 : decode cX8_shown 10 = .ok (.iload 4, 2) := by decide +kernel
theorem dX8_shown_12 : decode cX8_shown 12 = .ok (.ifCond .eq 6, 3) := by decide +kernel
theorem dX8_shown_15 : decode cX8_shown 15 = .ok (.iload 4, 2) := by decide +kernel
theorem dX8_shown_17 : decode cX8_shown 17 = .ok (.ireturn, 1) := by decide +kernel
theorem dX8_shown_18 : decode cX8_shown 18 = .ok (.aload_n 0, 1) := by decide +kernel
theorem dX8_shown_19 : decode cX8_shown 19 = .ok (.iload_n 1, 1) := by decide +kernel
theorem dX8_shown_20 : decode cX8_shown 20 = .ok (.iload_n 2, 1) := by decide +kernel
theorem dX8_shown_21 : decode cX8_shown 21 = .ok (.invokevirtual 163, 3) := by decide +kernel
theorem dX8_shown_24 : decode cX8_shown 24 = .ok (.aload_n 0, 1) := by decide +kernel
theorem dX8_shown_25 : decode cX8_shown 25 = .ok (.getfield 54, 3) := by decide +kernel
theorem dX8_shown_28 : decode cX8_shown 28 = .ok (.getfield 169, 3) := by decide +kernel
theorem dX8_shown_31 : decode cX8_shown 31 = .ok (.iload_n 3, 1) := by decide +kernel
theorem dX8_shown_32 : decode cX8_shown 32 = .ok (.iaload, 1) := by decide +kernel
theorem dX8_shown_33 : decode cX8_shown 33 = .ok (.ireturn, 1) := by decide +kernel
theorem dX8_some_0 : decode cX8_some 0 = .ok (.aload_n 0, 1) := by decide +kernel
theorem dX8_some_1 : decode cX8_some 1 = .ok (.getfield 19, 3) := by decide +kernel
theorem dX8_some_4 : decode cX8_some 4 = .ok (.iload_n 1, 1) := by decide +kernel
theorem dX8_some_5 : decode cX8_some 5 = .ok (.invokevirtual 99, 3) := by decide +kernel
theorem dX8_some_8 : decode cX8_some 8 = .ok (.ifCond .eq 14, 3) := by decide +kernel
theorem dX8_some_11 : decode cX8_some 11 = .ok (.aload_n 0, 1) := by decide +kernel
theorem dX8_some_12 : decode cX8_some 12 = .ok (.getfield 19, 3) := by decide +kernel
theorem dX8_some_15 : decode cX8_some 15 = .ok (.iload_n 2, 1) := by decide +kernel
theorem dX8_some_16 : decode cX8_some 16 = .ok (.invokevirtual 99, 3) := by decide +kernel
theorem dX8_some_19 : decode cX8_some 19 = .ok (.ifCond .ne 6, 3) := by decide +kernel
theorem dX8_some_22 : decode cX8_some 22 = .ok (.bipush (-2), 2) := by decide +kernel
theorem dX8_some_24 : decode cX8_some 24 = .ok (.ireturn, 1) := by decide +kernel
theorem dX8_some_25 : decode cX8_some 25 = .ok (.iload_n 3, 1) := by decide +kernel
theorem dX8_some_26 : decode cX8_some 26 = .ok (.ifCond .lt 26, 3) := by decide +kernel
theorem dX8_some_29 : decode cX8_some 29 = .ok (.iload_n 3, 1) := by decide +kernel
theorem dX8_some_30 : decode cX8_some 30 = .ok (.aload_n 0, 1) := by decide +kernel
theorem dX8_some_31 : decode cX8_some 31 = .ok (.getfield 19, 3) := by decide +kernel
theorem dX8_some_34 : decode cX8_some 34 = .ok (.iload_n 1, 1) := by decide +kernel
theorem dX8_some_35 : decode cX8_some 35 = .ok (.invokevirtual 130, 3) := by decide +kernel
theorem dX8_some_38 : decode cX8_some 38 = .ok (.aload_n 0, 1) := by decide +kernel
theorem dX8_some_39 : decode cX8_some 39 = .ok (.getfield 19, 3) := by decide +kernel
theorem dX8_some_42 : decode cX8_some 42 = .ok (.iload_n 2, 1) := by decide +kernel
theorem dX8_some_43 : decode cX8_some 43 = .ok (.invokevirtual 130, 3) := by decide +kernel
theorem dX8_some_46 : decode cX8_some 46 = .ok (.invokestatic 172, 3) := by decide +kernel
theorem dX8_some_49 : decode cX8_some 49 = .ok (.if_icmp .le 6, 3) := by decide +kernel
theorem dX8_some_52 : decode cX8_some 52 = .ok (.bipush (-3), 2) := by decide +kernel
theorem dX8_some_54 : decode cX8_some 54 = .ok (.ireturn, 1) := by decide +kernel
theorem dX8_some_55 : decode cX8_some 55 = .ok (.aload_n 0, 1) := by decide +kernel
theorem dX8_some_56 : decode cX8_some 56 = .ok (.getfield 12, 3) := by decide +kernel
theorem dX8_some_59 : decode cX8_some 59 = .ok (.invokevirtual 177, 3) := by decide +kernel
theorem dX8_some_62 : decode cX8_some 62 = .ok (.ifCond .ne 6, 3) := by decide +kernel
theorem dX8_some_65 : decode cX8_some 65 = .ok (.bipush (-4), 2) := by decide +kernel
theorem dX8_some_67 : decode cX8_some 67 = .ok (.ireturn, 1) := by decide +kernel
theorem dX8_some_68 : decode cX8_some 68 = .ok (.aload_n 0, 1) := by decide +kernel
theorem dX8_some_69 : decode cX8_some 69 = .ok (.getfield 40, 3) := by decide +kernel
theorem dX8_some_72 : decode cX8_some 72 = .ok (.aload_n 0, 1) := by decide +kernel
theorem dX8_some_73 : decode cX8_some 73 = .ok (.getfield 12, 3) := by decide +kernel
theorem dX8_some_76 : decode cX8_some 76 = .ok (.aload_n 0, 1) := by decide +kernel
theorem dX8_some_77 : decode cX8_some 77 = .ok (.getfield 19, 3) := by decide +kernel
theorem dX8_some_80 : decode cX8_some 80 = .ok (.getfield 100, 3) := by decide +kernel
theorem dX8_some_83 : decode cX8_some 83 = .ok (.iload_n 1, 1) := by decide +kernel
theorem dX8_some_84 : decode cX8_some 84 = .ok (.aaload, 1) := by decide +kernel
theorem dX8_some_85 : decode cX8_some 85 = .ok (.aload_n 0, 1) := by decide +kernel
theorem dX8_some_86 : decode cX8_some 86 = .ok (.getfield 19, 3) := by decide +kernel
theorem dX8_some_89 : decode cX8_some 89 = .ok (.getfield 100, 3) := by decide +kernel
theorem dX8_some_92 : decode cX8_some 92 = .ok (.iload_n 2, 1) := by decide +kernel
theorem dX8_some_93 : decode cX8_some 93 = .ok (.aaload, 1) := by decide +kernel
theorem dX8_some_94 : decode cX8_some 94 = .ok (.iload_n 3, 1) := by decide +kernel
theorem dX8_some_95 : decode cX8_some 95 = .ok (.invokevirtual 181, 3) := by decide +kernel
theorem dX8_some_98 : decode cX8_some 98 = .ok (.ireturn, 1) := by decide +kernel
theorem dX8_gated_0 : decode cX8_gated 0 = .ok (.aload_n 0, 1) := by decide +kernel
theorem dX8_gated_1 : decode cX8_gated 1 = .ok (.iload_n 1, 1) := by decide +kernel
theorem dX8_gated_2 : decode cX8_gated 2 = .ok (.iload_n 2, 1) := by decide +kernel
theorem dX8_gated_3 : decode cX8_gated 3 = .ok (.invokevirtual 134, 3) := by decide +kernel
theorem dX8_gated_6 : decode cX8_gated 6 = .ok (.istore_n 3, 1) := by decide +kernel
theorem dX8_gated_7 : decode cX8_gated 7 = .ok (.iload_n 3, 1) := by decide +kernel
theorem dX8_gated_8 : decode cX8_gated 8 = .ok (.ifCond .eq 5, 3) := by decide +kernel
theorem dX8_gated_11 : decode cX8_gated 11 = .ok (.iload_n 3, 1) := by decide +kernel
theorem dX8_gated_12 : decode cX8_gated 12 = .ok (.ireturn, 1) := by decide +kernel
theorem dX8_gated_13 : decode cX8_gated 13 = .ok (.aload_n 0, 1) := by decide +kernel
theorem dX8_gated_14 : decode cX8_gated 14 = .ok (.getfield 40, 3) := by decide +kernel
theorem dX8_gated_17 : decode cX8_gated 17 = .ok (.aload_n 0, 1) := by decide +kernel
theorem dX8_gated_18 : decode cX8_gated 18 = .ok (.getfield 12, 3) := by decide +kernel
theorem dX8_gated_21 : decode cX8_gated 21 = .ok (.aload_n 0, 1) := by decide +kernel
theorem dX8_gated_22 : decode cX8_gated 22 = .ok (.getfield 19, 3) := by decide +kernel
theorem dX8_gated_25 : decode cX8_gated 25 = .ok (.getfield 100, 3) := by decide +kernel
theorem dX8_gated_28 : decode cX8_gated 28 = .ok (.iload_n 1, 1) := by decide +kernel
theorem dX8_gated_29 : decode cX8_gated 29 = .ok (.aaload, 1) := by decide +kernel
theorem dX8_gated_30 : decode cX8_gated 30 = .ok (.aload_n 0, 1) := by decide +kernel
theorem dX8_gated_31 : decode cX8_gated 31 = .ok (.getfield 19, 3) := by decide +kernel
theorem dX8_gated_34 : decode cX8_gated 34 = .ok (.getfield 100, 3) := by decide +kernel
theorem dX8_gated_37 : decode cX8_gated 37 = .ok (.iload_n 2, 1) := by decide +kernel
theorem dX8_gated_38 : decode cX8_gated 38 = .ok (.aaload, 1) := by decide +kernel
theorem dX8_gated_39 : decode cX8_gated 39 = .ok (.invokevirtual 185, 3) := by decide +kernel
theorem dX8_gated_42 : decode cX8_gated 42 = .ok (.ireturn, 1) := by decide +kernel
theorem dX8_draft_0 : decode cX8_draft 0 = .ok (.aload_n 0, 1) := by decide +kernel
theorem dX8_draft_1 : decode cX8_draft 1 = .ok (.getfield 12, 3) := by decide +kernel
theorem dX8_draft_4 : decode cX8_draft 4 = .ok (.iload_n 1, 1) := by decide +kernel
theorem dX8_draft_5 : decode cX8_draft 5 = .ok (.invokevirtual 85, 3) := by decide +kernel
theorem dX8_draft_8 : decode cX8_draft 8 = .ok (.ifCond .eq 14, 3) := by decide +kernel
theorem dX8_draft_11 : decode cX8_draft 11 = .ok (.aload_n 0, 1) := by decide +kernel
theorem dX8_draft_12 : decode cX8_draft 12 = .ok (.getfield 12, 3) := by decide +kernel
theorem dX8_draft_15 : decode cX8_draft 15 = .ok (.iload_n 2, 1) := by decide +kernel
theorem dX8_draft_16 : decode cX8_draft 16 = .ok (.invokevirtual 85, 3) := by decide +kernel
theorem dX8_draft_19 : decode cX8_draft 19 = .ok (.ifCond .ne 6, 3) := by decide +kernel
theorem dX8_draft_22 : decode cX8_draft 22 = .ok (.bipush (-2), 2) := by decide +kernel
theorem dX8_draft_24 : decode cX8_draft 24 = .ok (.ireturn, 1) := by decide +kernel
theorem dX8_draft_25 : decode cX8_draft 25 = .ok (.iload_n 3, 1) := by decide +kernel
theorem dX8_draft_26 : decode cX8_draft 26 = .ok (.ifCond .lt 10, 3) := by decide +kernel
theorem dX8_draft_29 : decode cX8_draft 29 = .ok (.iload_n 3, 1) := by decide +kernel
theorem dX8_draft_30 : decode cX8_draft 30 = .ok (.sipush 10000, 3) := by decide +kernel
theorem dX8_draft_33 : decode cX8_draft 33 = .ok (.if_icmp .le 6, 3) := by decide +kernel
theorem dX8_draft_36 : decode cX8_draft 36 = .ok (.bipush (-3), 2) := by decide +kernel
theorem dX8_draft_38 : decode cX8_draft 38 = .ok (.ireturn, 1) := by decide +kernel
theorem dX8_draft_39 : decode cX8_draft 39 = .ok (.aload_n 0, 1) := by decide +kernel
theorem dX8_draft_40 : decode cX8_draft 40 = .ok (.getfield 33, 3) := by decide +kernel
theorem dX8_draft_43 : decode cX8_draft 43 = .ok (.getfield 189, 3) := by decide +kernel
theorem dX8_draft_46 : decode cX8_draft 46 = .ok (.iload_n 1, 1) := by decide +kernel
theorem dX8_draft_47 : decode cX8_draft 47 = .ok (.aaload, 1) := by decide +kernel
theorem dX8_draft_48 : decode cX8_draft 48 = .ok (.iload_n 2, 1) := by decide +kernel
theorem dX8_draft_49 : decode cX8_draft 49 = .ok (.iaload, 1) := by decide +kernel
theorem dX8_draft_50 : decode cX8_draft 50 = .ok (.istore 4, 2) := by decide +kernel
theorem dX8_draft_52 : decode cX8_draft 52 = .ok (.aload_n 0, 1) := by decide +kernel
theorem dX8_draft_53 : decode cX8_draft 53 = .ok (.getfield 33, 3) := by decide +kernel
theorem dX8_draft_56 : decode cX8_draft 56 = .ok (.getfield 189, 3) := by decide +kernel
theorem dX8_draft_59 : decode cX8_draft 59 = .ok (.iload_n 1, 1) := by decide +kernel
theorem dX8_draft_60 : decode cX8_draft 60 = .ok (.aaload, 1) := by decide +kernel
theorem dX8_draft_61 : decode cX8_draft 61 = .ok (.iload_n 2, 1) := by decide +kernel
theorem dX8_draft_62 : decode cX8_draft 62 = .ok (.iload_n 3, 1) := by decide +kernel
theorem dX8_draft_63 : decode cX8_draft 63 = .ok (.iastore, 1) := by decide +kernel
theorem dX8_draft_64 : decode cX8_draft 64 = .ok (.iload 4, 2) := by decide +kernel
theorem dX8_draft_66 : decode cX8_draft 66 = .ok (.ireturn, 1) := by decide +kernel
theorem dX8_clear_0 : decode cX8_clear 0 = .ok (.aload_n 0, 1) := by decide +kernel
theorem dX8_clear_1 : decode cX8_clear 1 = .ok (.getfield 33, 3) := by decide +kernel
theorem dX8_clear_4 : decode cX8_clear 4 = .ok (.invokevirtual 192, 3) := by decide +kernel
theorem dX8_clear_7 : decode cX8_clear 7 = .ok (.istore_n 1, 1) := by decide +kernel
theorem dX8_clear_8 : decode cX8_clear 8 = .ok (.aload_n 0, 1) := by decide +kernel
theorem dX8_clear_9 : decode cX8_clear 9 = .ok (.getfield 33, 3) := by decide +kernel
theorem dX8_clear_12 : decode cX8_clear 12 = .ok (.invokevirtual 195, 3) := by decide +kernel
theorem dX8_clear_15 : decode cX8_clear 15 = .ok (.iload_n 1, 1) := by decide +kernel
theorem dX8_clear_16 : decode cX8_clear 16 = .ok (.ireturn, 1) := by decide +kernel
theorem dX8_copy_0 : decode cX8_copy 0 = .ok (.aload_n 0, 1) := by decide +kernel
theorem dX8_copy_1 : decode cX8_copy 1 = .ok (.iload_n 1, 1) := by decide +kernel
theorem dX8_copy_2 : decode cX8_copy 2 = .ok (.iload_n 2, 1) := by decide +kernel
theorem dX8_copy_3 : decode cX8_copy 3 = .ok (.invokevirtual 134, 3) := by decide +kernel
theorem dX8_copy_6 : decode cX8_copy 6 = .ok (.istore_n 3, 1) := by decide +kernel
theorem dX8_copy_7 : decode cX8_copy 7 = .ok (.iload_n 3, 1) := by decide +kernel
theorem dX8_copy_8 : decode cX8_copy 8 = .ok (.ifCond .eq 5, 3) := by decide +kernel
theorem dX8_copy_11 : decode cX8_copy 11 = .ok (.iload_n 3, 1) := by decide +kernel
theorem dX8_copy_12 : decode cX8_copy 12 = .ok (.ireturn, 1) := by decide +kernel
theorem dX8_copy_13 : decode cX8_copy 13 = .ok (.aload_n 0, 1) := by decide +kernel
theorem dX8_copy_14 : decode cX8_copy 14 = .ok (.iload_n 1, 1) := by decide +kernel
theorem dX8_copy_15 : decode cX8_copy 15 = .ok (.iload_n 2, 1) := by decide +kernel
theorem dX8_copy_16 : decode cX8_copy 16 = .ok (.invokevirtual 144, 3) := by decide +kernel
theorem dX8_copy_19 : decode cX8_copy 19 = .ok (.iconst 0, 1) := by decide +kernel
theorem dX8_copy_20 : decode cX8_copy 20 = .ok (.istore 4, 2) := by decide +kernel
theorem dX8_copy_22 : decode cX8_copy 22 = .ok (.iload 4, 2) := by decide +kernel
theorem dX8_copy_24 : decode cX8_copy 24 = .ok (.aload_n 0, 1) := by decide +kernel
theorem dX8_copy_25 : decode cX8_copy 25 = .ok (.getfield 12, 3) := by decide +kernel
theorem dX8_copy_28 : decode cX8_copy 28 = .ok (.getfield 74, 3) := by decide +kernel
theorem dX8_copy_31 : decode cX8_copy 31 = .ok (.if_icmp .ge 56, 3) := by decide +kernel
theorem dX8_copy_34 : decode cX8_copy 34 = .ok (.iconst 0, 1) := by decide +kernel
theorem dX8_copy_35 : decode cX8_copy 35 = .ok (.istore 5, 2) := by decide +kernel
theorem dX8_copy_37 : decode cX8_copy 37 = .ok (.iload 5, 2) := by decide +kernel
theorem dX8_copy_39 : decode cX8_copy 39 = .ok (.aload_n 0, 1) := by decide +kernel
theorem dX8_copy_40 : decode cX8_copy 40 = .ok (.getfield 12, 3) := by decide +kernel
theorem dX8_copy_43 : decode cX8_copy 43 = .ok (.getfield 74, 3) := by decide +kernel
theorem dX8_copy_46 : decode cX8_copy 46 = .ok (.if_icmp .ge 35, 3) := by decide +kernel
theorem dX8_copy_49 : decode cX8_copy 49 = .ok (.aload_n 0, 1) := by decide +kernel
theorem dX8_copy_50 : decode cX8_copy 50 = .ok (.getfield 33, 3) := by decide +kernel
theorem dX8_copy_53 : decode cX8_copy 53 = .ok (.getfield 189, 3) := by decide +kernel
theorem dX8_copy_56 : decode cX8_copy 56 = .ok (.iload 4, 2) := by decide +kernel
theorem dX8_copy_58 : decode cX8_copy 58 = .ok (.aaload, 1) := by decide +kernel
theorem dX8_copy_59 : decode cX8_copy 59 = .ok (.iload 5, 2) := by decide +kernel
theorem dX8_copy_61 : decode cX8_copy 61 = .ok (.aload_n 0, 1) := by decide +kernel
theorem dX8_copy_62 : decode cX8_copy 62 = .ok (.getfield 47, 3) := by decide +kernel
theorem dX8_copy_65 : decode cX8_copy 65 = .ok (.getfield 148, 3) := by decide +kernel
theorem dX8_copy_68 : decode cX8_copy 68 = .ok (.iload 4, 2) := by decide +kernel
theorem dX8_copy_70 : decode cX8_copy 70 = .ok (.aaload, 1) := by decide +kernel
theorem dX8_copy_71 : decode cX8_copy 71 = .ok (.iload 5, 2) := by decide +kernel
theorem dX8_copy_73 : decode cX8_copy 73 = .ok (.iaload, 1) := by decide +kernel
theorem dX8_copy_74 : decode cX8_copy 74 = .ok (.iastore, 1) := by decide +kernel
theorem dX8_copy_75 : decode cX8_copy 75 = .ok (.iinc 5 1, 3) := by decide +kernel
theorem dX8_copy_78 : decode cX8_copy 78 = .ok (.goto (-41), 3) := by decide +kernel
theorem dX8_copy_81 : decode cX8_copy 81 = .ok (.iinc 4 1, 3) := by decide +kernel
theorem dX8_copy_84 : decode cX8_copy 84 = .ok (.goto (-62), 3) := by decide +kernel
theorem dX8_copy_87 : decode cX8_copy 87 = .ok (.aload_n 0, 1) := by decide +kernel
theorem dX8_copy_88 : decode cX8_copy 88 = .ok (.getfield 33, 3) := by decide +kernel
theorem dX8_copy_91 : decode cX8_copy 91 = .ok (.invokevirtual 192, 3) := by decide +kernel
theorem dX8_copy_94 : decode cX8_copy 94 = .ok (.ireturn, 1) := by decide +kernel
theorem dX8_judge_0 : decode cX8_judge 0 = .ok (.aload_n 0, 1) := by decide +kernel
theorem dX8_judge_1 : decode cX8_judge 1 = .ok (.iload_n 1, 1) := by decide +kernel
theorem dX8_judge_2 : decode cX8_judge 2 = .ok (.iload_n 2, 1) := by decide +kernel
theorem dX8_judge_3 : decode cX8_judge 3 = .ok (.invokevirtual 134, 3) := by decide +kernel
theorem dX8_judge_6 : decode cX8_judge 6 = .ok (.istore_n 3, 1) := by decide +kernel
theorem dX8_judge_7 : decode cX8_judge 7 = .ok (.iload_n 3, 1) := by decide +kernel
theorem dX8_judge_8 : decode cX8_judge 8 = .ok (.ifCond .eq 5, 3) := by decide +kernel
theorem dX8_judge_11 : decode cX8_judge 11 = .ok (.iload_n 3, 1) := by decide +kernel
theorem dX8_judge_12 : decode cX8_judge 12 = .ok (.ireturn, 1) := by decide +kernel
theorem dX8_judge_13 : decode cX8_judge 13 = .ok (.aload_n 0, 1) := by decide +kernel
theorem dX8_judge_14 : decode cX8_judge 14 = .ok (.getfield 33, 3) := by decide +kernel
theorem dX8_judge_17 : decode cX8_judge 17 = .ok (.aload_n 0, 1) := by decide +kernel
theorem dX8_judge_18 : decode cX8_judge 18 = .ok (.getfield 12, 3) := by decide +kernel
theorem dX8_judge_21 : decode cX8_judge 21 = .ok (.getfield 74, 3) := by decide +kernel
theorem dX8_judge_24 : decode cX8_judge 24 = .ok (.aload_n 0, 1) := by decide +kernel
theorem dX8_judge_25 : decode cX8_judge 25 = .ok (.getfield 19, 3) := by decide +kernel
theorem dX8_judge_28 : decode cX8_judge 28 = .ok (.getfield 100, 3) := by decide +kernel
theorem dX8_judge_31 : decode cX8_judge 31 = .ok (.iload_n 1, 1) := by decide +kernel
theorem dX8_judge_32 : decode cX8_judge 32 = .ok (.aaload, 1) := by decide +kernel
theorem dX8_judge_33 : decode cX8_judge 33 = .ok (.invokevirtual 198, 3) := by decide +kernel
theorem dX8_judge_36 : decode cX8_judge 36 = .ok (.istore 4, 2) := by decide +kernel
theorem dX8_judge_38 : decode cX8_judge 38 = .ok (.iload 4, 2) := by decide +kernel
theorem dX8_judge_40 : decode cX8_judge 40 = .ok (.iconst (-1), 1) := by decide +kernel
theorem dX8_judge_41 : decode cX8_judge 41 = .ok (.if_icmp .eq 11, 3) := by decide +kernel
theorem dX8_judge_44 : decode cX8_judge 44 = .ok (.aload_n 0, 1) := by decide +kernel
theorem dX8_judge_45 : decode cX8_judge 45 = .ok (.iload 4, 2) := by decide +kernel
theorem dX8_judge_47 : decode cX8_judge 47 = .ok (.putfield 71, 3) := by decide +kernel
theorem dX8_judge_50 : decode cX8_judge 50 = .ok (.iconst 1, 1) := by decide +kernel
theorem dX8_judge_51 : decode cX8_judge 51 = .ok (.ireturn, 1) := by decide +kernel
theorem dX8_judge_52 : decode cX8_judge 52 = .ok (.aload_n 0, 1) := by decide +kernel
theorem dX8_judge_53 : decode cX8_judge 53 = .ok (.getfield 33, 3) := by decide +kernel
theorem dX8_judge_56 : decode cX8_judge 56 = .ok (.aload_n 0, 1) := by decide +kernel
theorem dX8_judge_57 : decode cX8_judge 57 = .ok (.getfield 12, 3) := by decide +kernel
theorem dX8_judge_60 : decode cX8_judge 60 = .ok (.getfield 74, 3) := by decide +kernel
theorem dX8_judge_63 : decode cX8_judge 63 = .ok (.aload_n 0, 1) := by decide +kernel
theorem dX8_judge_64 : decode cX8_judge 64 = .ok (.getfield 19, 3) := by decide +kernel
theorem dX8_judge_67 : decode cX8_judge 67 = .ok (.getfield 100, 3) := by decide +kernel
theorem dX8_judge_70 : decode cX8_judge 70 = .ok (.iload_n 2, 1) := by decide +kernel
theorem dX8_judge_71 : decode cX8_judge 71 = .ok (.aaload, 1) := by decide +kernel
theorem dX8_judge_72 : decode cX8_judge 72 = .ok (.invokevirtual 202, 3) := by decide +kernel
theorem dX8_judge_75 : decode cX8_judge 75 = .ok (.istore 4, 2) := by decide +kernel
theorem dX8_judge_77 : decode cX8_judge 77 = .ok (.iload 4, 2) := by decide +kernel
theorem dX8_judge_79 : decode cX8_judge 79 = .ok (.iconst (-1), 1) := by decide +kernel
theorem dX8_judge_80 : decode cX8_judge 80 = .ok (.if_icmp .eq 11, 3) := by decide +kernel
theorem dX8_judge_83 : decode cX8_judge 83 = .ok (.aload_n 0, 1) := by decide +kernel
theorem dX8_judge_84 : decode cX8_judge 84 = .ok (.iload 4, 2) := by decide +kernel
theorem dX8_judge_86 : decode cX8_judge 86 = .ok (.putfield 71, 3) := by decide +kernel
theorem dX8_judge_89 : decode cX8_judge 89 = .ok (.iconst 2, 1) := by decide +kernel
theorem dX8_judge_90 : decode cX8_judge 90 = .ok (.ireturn, 1) := by decide +kernel
theorem dX8_judge_91 : decode cX8_judge 91 = .ok (.aload_n 0, 1) := by decide +kernel
theorem dX8_judge_92 : decode cX8_judge 92 = .ok (.aload_n 0, 1) := by decide +kernel
theorem dX8_judge_93 : decode cX8_judge 93 = .ok (.getfield 33, 3) := by decide +kernel
theorem dX8_judge_96 : decode cX8_judge 96 = .ok (.aload_n 0, 1) := by decide +kernel
theorem dX8_judge_97 : decode cX8_judge 97 = .ok (.getfield 12, 3) := by decide +kernel
theorem dX8_judge_100 : decode cX8_judge 100 = .ok (.invokevirtual 205, 3) := by decide +kernel
theorem dX8_judge_103 : decode cX8_judge 103 = .ok (.aload_n 0, 1) := by decide +kernel
theorem dX8_judge_104 : decode cX8_judge 104 = .ok (.iload_n 1, 1) := by decide +kernel
theorem dX8_judge_105 : decode cX8_judge 105 = .ok (.iload_n 2, 1) := by decide +kernel
theorem dX8_judge_106 : decode cX8_judge 106 = .ok (.invokevirtual 137, 3) := by decide +kernel
theorem dX8_judge_109 : decode cX8_judge 109 = .ok (.isub, 1) := by decide +kernel
theorem dX8_judge_110 : decode cX8_judge 110 = .ok (.putfield 71, 3) := by decide +kernel
theorem dX8_judge_113 : decode cX8_judge 113 = .ok (.aload_n 0, 1) := by decide +kernel
theorem dX8_judge_114 : decode cX8_judge 114 = .ok (.getfield 71, 3) := by decide +kernel
theorem dX8_judge_117 : decode cX8_judge 117 = .ok (.ifCond .le 7, 3) := by decide +kernel
theorem dX8_judge_120 : decode cX8_judge 120 = .ok (.iconst 3, 1) := by decide +kernel
theorem dX8_judge_121 : decode cX8_judge 121 = .ok (.goto 4, 3) := by decide +kernel
theorem dX8_judge_124 : decode cX8_judge 124 = .ok (.iconst 0, 1) := by decide +kernel
theorem dX8_judge_125 : decode cX8_judge 125 = .ok (.ireturn, 1) := by decide +kernel
theorem dX8_beside_0 : decode cX8_beside 0 = .ok (.aload_n 0, 1) := by decide +kernel
theorem dX8_beside_1 : decode cX8_beside 1 = .ok (.getfield 71, 3) := by decide +kernel
theorem dX8_beside_4 : decode cX8_beside 4 = .ok (.ireturn, 1) := by decide +kernel
theorem dX8_count_0 : decode cX8_count 0 = .ok (.iload_n 1, 1) := by decide +kernel
theorem dX8_count_1 : decode cX8_count 1 = .ok (.tableswitch 95 0 5 #[39, 47, 55, 63, 71, 79], 39) := by decide +kernel
theorem dX8_count_40 : decode cX8_count 40 = .ok (.aload_n 0, 1) := by decide +kernel
theorem dX8_count_41 : decode cX8_count 41 = .ok (.getfield 12, 3) := by decide +kernel
theorem dX8_count_44 : decode cX8_count 44 = .ok (.getfield 74, 3) := by decide +kernel
theorem dX8_count_47 : decode cX8_count 47 = .ok (.ireturn, 1) := by decide +kernel
theorem dX8_count_48 : decode cX8_count 48 = .ok (.aload_n 0, 1) := by decide +kernel
theorem dX8_count_49 : decode cX8_count 49 = .ok (.getfield 12, 3) := by decide +kernel
theorem dX8_count_52 : decode cX8_count 52 = .ok (.getfield 89, 3) := by decide +kernel
theorem dX8_count_55 : decode cX8_count 55 = .ok (.ireturn, 1) := by decide +kernel
theorem dX8_count_56 : decode cX8_count 56 = .ok (.aload_n 0, 1) := by decide +kernel
theorem dX8_count_57 : decode cX8_count 57 = .ok (.getfield 19, 3) := by decide +kernel
theorem dX8_count_60 : decode cX8_count 60 = .ok (.getfield 96, 3) := by decide +kernel
theorem dX8_count_63 : decode cX8_count 63 = .ok (.ireturn, 1) := by decide +kernel
theorem dX8_count_64 : decode cX8_count 64 = .ok (.aload_n 0, 1) := by decide +kernel
theorem dX8_count_65 : decode cX8_count 65 = .ok (.getfield 12, 3) := by decide +kernel
theorem dX8_count_68 : decode cX8_count 68 = .ok (.invokevirtual 209, 3) := by decide +kernel
theorem dX8_count_71 : decode cX8_count 71 = .ok (.ireturn, 1) := by decide +kernel
theorem dX8_count_72 : decode cX8_count 72 = .ok (.aload_n 0, 1) := by decide +kernel
theorem dX8_count_73 : decode cX8_count 73 = .ok (.getfield 26, 3) := by decide +kernel
theorem dX8_count_76 : decode cX8_count 76 = .ok (.getfield 109, 3) := by decide +kernel
theorem dX8_count_79 : decode cX8_count 79 = .ok (.ireturn, 1) := by decide +kernel
theorem dX8_count_80 : decode cX8_count 80 = .ok (.aload_n 0, 1) := by decide +kernel
theorem dX8_count_81 : decode cX8_count 81 = .ok (.getfield 12, 3) := by decide +kernel
theorem dX8_count_84 : decode cX8_count 84 = .ok (.invokevirtual 177, 3) := by decide +kernel
theorem dX8_count_87 : decode cX8_count 87 = .ok (.ifCond .eq 7, 3) := by decide +kernel
theorem dX8_count_90 : decode cX8_count 90 = .ok (.iconst 1, 1) := by decide +kernel
theorem dX8_count_91 : decode cX8_count 91 = .ok (.goto 4, 3) := by decide +kernel
theorem dX8_count_94 : decode cX8_count 94 = .ok (.iconst 0, 1) := by decide +kernel
theorem dX8_count_95 : decode cX8_count 95 = .ok (.ireturn, 1) := by decide +kernel
theorem dX8_count_96 : decode cX8_count 96 = .ok (.bipush (-3), 2) := by decide +kernel
theorem dX8_count_98 : decode cX8_count 98 = .ok (.ireturn, 1) := by decide +kernel
theorem dX8_refusalOfMoving_0 : decode cX8_refusalOfMoving 0 = .ok (.aload_n 0, 1) := by decide +kernel
theorem dX8_refusalOfMoving_1 : decode cX8_refusalOfMoving 1 = .ok (.getfield 19, 3) := by decide +kernel
theorem dX8_refusalOfMoving_4 : decode cX8_refusalOfMoving 4 = .ok (.iload_n 1, 1) := by decide +kernel
theorem dX8_refusalOfMoving_5 : decode cX8_refusalOfMoving 5 = .ok (.invokevirtual 99, 3) := by decide +kernel
theorem dX8_refusalOfMoving_8 : decode cX8_refusalOfMoving 8 = .ok (.ifCond .eq 14, 3) := by decide +kernel
theorem dX8_refusalOfMoving_11 : decode cX8_refusalOfMoving 11 = .ok (.aload_n 0, 1) := by decide +kernel
theorem dX8_refusalOfMoving_12 : decode cX8_refusalOfMoving 12 = .ok (.getfield 19, 3) := by decide +kernel
theorem dX8_refusalOfMoving_15 : decode cX8_refusalOfMoving 15 = .ok (.iload_n 2, 1) := by decide +kernel
theorem dX8_refusalOfMoving_16 : decode cX8_refusalOfMoving 16 = .ok (.invokevirtual 99, 3) := by decide +kernel
theorem dX8_refusalOfMoving_19 : decode cX8_refusalOfMoving 19 = .ok (.ifCond .ne 6, 3) := by decide +kernel
theorem dX8_refusalOfMoving_22 : decode cX8_refusalOfMoving 22 = .ok (.bipush (-2), 2) := by decide +kernel
theorem dX8_refusalOfMoving_24 : decode cX8_refusalOfMoving 24 = .ok (.ireturn, 1) := by decide +kernel
theorem dX8_refusalOfMoving_25 : decode cX8_refusalOfMoving 25 = .ok (.aload_n 0, 1) := by decide +kernel
theorem dX8_refusalOfMoving_26 : decode cX8_refusalOfMoving 26 = .ok (.getfield 12, 3) := by decide +kernel
theorem dX8_refusalOfMoving_29 : decode cX8_refusalOfMoving 29 = .ok (.invokevirtual 177, 3) := by decide +kernel
theorem dX8_refusalOfMoving_32 : decode cX8_refusalOfMoving 32 = .ok (.ifCond .eq 22, 3) := by decide +kernel
theorem dX8_refusalOfMoving_35 : decode cX8_refusalOfMoving 35 = .ok (.aload_n 0, 1) := by decide +kernel
theorem dX8_refusalOfMoving_36 : decode cX8_refusalOfMoving 36 = .ok (.getfield 19, 3) := by decide +kernel
theorem dX8_refusalOfMoving_39 : decode cX8_refusalOfMoving 39 = .ok (.iload_n 1, 1) := by decide +kernel
theorem dX8_refusalOfMoving_40 : decode cX8_refusalOfMoving 40 = .ok (.invokevirtual 130, 3) := by decide +kernel
theorem dX8_refusalOfMoving_43 : decode cX8_refusalOfMoving 43 = .ok (.aload_n 0, 1) := by decide +kernel
theorem dX8_refusalOfMoving_44 : decode cX8_refusalOfMoving 44 = .ok (.getfield 19, 3) := by decide +kernel
theorem dX8_refusalOfMoving_47 : decode cX8_refusalOfMoving 47 = .ok (.iload_n 2, 1) := by decide +kernel
theorem dX8_refusalOfMoving_48 : decode cX8_refusalOfMoving 48 = .ok (.invokevirtual 130, 3) := by decide +kernel
theorem dX8_refusalOfMoving_51 : decode cX8_refusalOfMoving 51 = .ok (.if_icmp .eq 6, 3) := by decide +kernel
theorem dX8_refusalOfMoving_54 : decode cX8_refusalOfMoving 54 = .ok (.bipush (-4), 2) := by decide +kernel
theorem dX8_refusalOfMoving_56 : decode cX8_refusalOfMoving 56 = .ok (.ireturn, 1) := by decide +kernel
theorem dX8_refusalOfMoving_57 : decode cX8_refusalOfMoving 57 = .ok (.iconst 0, 1) := by decide +kernel
theorem dX8_refusalOfMoving_58 : decode cX8_refusalOfMoving 58 = .ok (.ireturn, 1) := by decide +kernel
theorem dX8_refusalAtPlaces_0 : decode cX8_refusalAtPlaces 0 = .ok (.aload_n 0, 1) := by decide +kernel
theorem dX8_refusalAtPlaces_1 : decode cX8_refusalAtPlaces 1 = .ok (.getfield 12, 3) := by decide +kernel
theorem dX8_refusalAtPlaces_4 : decode cX8_refusalAtPlaces 4 = .ok (.iload_n 3, 1) := by decide +kernel
theorem dX8_refusalAtPlaces_5 : decode cX8_refusalAtPlaces 5 = .ok (.invokevirtual 85, 3) := by decide +kernel
theorem dX8_refusalAtPlaces_8 : decode cX8_refusalAtPlaces 8 = .ok (.ifCond .eq 15, 3) := by decide +kernel
theorem dX8_refusalAtPlaces_11 : decode cX8_refusalAtPlaces 11 = .ok (.aload_n 0, 1) := by decide +kernel
theorem dX8_refusalAtPlaces_12 : decode cX8_refusalAtPlaces 12 = .ok (.getfield 12, 3) := by decide +kernel
theorem dX8_refusalAtPlaces_15 : decode cX8_refusalAtPlaces 15 = .ok (.iload 4, 2) := by decide +kernel
theorem dX8_refusalAtPlaces_17 : decode cX8_refusalAtPlaces 17 = .ok (.invokevirtual 85, 3) := by decide +kernel
theorem dX8_refusalAtPlaces_20 : decode cX8_refusalAtPlaces 20 = .ok (.ifCond .ne 6, 3) := by decide +kernel
theorem dX8_refusalAtPlaces_23 : decode cX8_refusalAtPlaces 23 = .ok (.bipush (-2), 2) := by decide +kernel
theorem dX8_refusalAtPlaces_25 : decode cX8_refusalAtPlaces 25 = .ok (.ireturn, 1) := by decide +kernel
theorem dX8_refusalAtPlaces_26 : decode cX8_refusalAtPlaces 26 = .ok (.aload_n 0, 1) := by decide +kernel
theorem dX8_refusalAtPlaces_27 : decode cX8_refusalAtPlaces 27 = .ok (.iload_n 1, 1) := by decide +kernel
theorem dX8_refusalAtPlaces_28 : decode cX8_refusalAtPlaces 28 = .ok (.iload_n 2, 1) := by decide +kernel
theorem dX8_refusalAtPlaces_29 : decode cX8_refusalAtPlaces 29 = .ok (.invokevirtual 134, 3) := by decide +kernel
theorem dX8_refusalAtPlaces_32 : decode cX8_refusalAtPlaces 32 = .ok (.ireturn, 1) := by decide +kernel
theorem dX8_leastCost_0 : decode cX8_leastCost 0 = .ok (.aload_n 0, 1) := by decide +kernel
theorem dX8_leastCost_1 : decode cX8_leastCost 1 = .ok (.getfield 40, 3) := by decide +kernel
theorem dX8_leastCost_4 : decode cX8_leastCost 4 = .ok (.aload_n 0, 1) := by decide +kernel
theorem dX8_leastCost_5 : decode cX8_leastCost 5 = .ok (.getfield 12, 3) := by decide +kernel
theorem dX8_leastCost_8 : decode cX8_leastCost 8 = .ok (.aload_n 0, 1) := by decide +kernel
theorem dX8_leastCost_9 : decode cX8_leastCost 9 = .ok (.getfield 19, 3) := by decide +kernel
theorem dX8_leastCost_12 : decode cX8_leastCost 12 = .ok (.getfield 100, 3) := by decide +kernel
theorem dX8_leastCost_15 : decode cX8_leastCost 15 = .ok (.iload_n 1, 1) := by decide +kernel
theorem dX8_leastCost_16 : decode cX8_leastCost 16 = .ok (.aaload, 1) := by decide +kernel
theorem dX8_leastCost_17 : decode cX8_leastCost 17 = .ok (.aload_n 0, 1) := by decide +kernel
theorem dX8_leastCost_18 : decode cX8_leastCost 18 = .ok (.getfield 19, 3) := by decide +kernel
theorem dX8_leastCost_21 : decode cX8_leastCost 21 = .ok (.getfield 100, 3) := by decide +kernel
theorem dX8_leastCost_24 : decode cX8_leastCost 24 = .ok (.iload_n 2, 1) := by decide +kernel
theorem dX8_leastCost_25 : decode cX8_leastCost 25 = .ok (.aaload, 1) := by decide +kernel
theorem dX8_leastCost_26 : decode cX8_leastCost 26 = .ok (.aload_n 0, 1) := by decide +kernel
theorem dX8_leastCost_27 : decode cX8_leastCost 27 = .ok (.getfield 19, 3) := by decide +kernel
theorem dX8_leastCost_30 : decode cX8_leastCost 30 = .ok (.iload_n 1, 1) := by decide +kernel
theorem dX8_leastCost_31 : decode cX8_leastCost 31 = .ok (.invokevirtual 130, 3) := by decide +kernel
theorem dX8_leastCost_34 : decode cX8_leastCost 34 = .ok (.invokevirtual 181, 3) := by decide +kernel
theorem dX8_leastCost_37 : decode cX8_leastCost 37 = .ok (.ireturn, 1) := by decide +kernel
theorem dX8_makePlan_0 : decode cX8_makePlan 0 = .ok (.aload_n 0, 1) := by decide +kernel
theorem dX8_makePlan_1 : decode cX8_makePlan 1 = .ok (.getfield 58, 3) := by decide +kernel
theorem dX8_makePlan_4 : decode cX8_makePlan 4 = .ok (.iload_n 1, 1) := by decide +kernel
theorem dX8_makePlan_5 : decode cX8_makePlan 5 = .ok (.if_icmp .ne 12, 3) := by decide +kernel
theorem dX8_makePlan_8 : decode cX8_makePlan 8 = .ok (.aload_n 0, 1) := by decide +kernel
theorem dX8_makePlan_9 : decode cX8_makePlan 9 = .ok (.getfield 62, 3) := by decide +kernel
theorem dX8_makePlan_12 : decode cX8_makePlan 12 = .ok (.iload_n 2, 1) := by decide +kernel
theorem dX8_makePlan_13 : decode cX8_makePlan 13 = .ok (.if_icmp .ne 4, 3) := by decide +kernel
theorem dX8_makePlan_16 : decode cX8_makePlan 16 = .ok (.return_, 1) := by decide +kernel
theorem dX8_makePlan_17 : decode cX8_makePlan 17 = .ok (.aload_n 0, 1) := by decide +kernel
theorem dX8_makePlan_18 : decode cX8_makePlan 18 = .ok (.getfield 47, 3) := by decide +kernel
theorem dX8_makePlan_21 : decode cX8_makePlan 21 = .ok (.aload_n 0, 1) := by decide +kernel
theorem dX8_makePlan_22 : decode cX8_makePlan 22 = .ok (.getfield 12, 3) := by decide +kernel
theorem dX8_makePlan_25 : decode cX8_makePlan 25 = .ok (.aload_n 0, 1) := by decide +kernel
theorem dX8_makePlan_26 : decode cX8_makePlan 26 = .ok (.getfield 40, 3) := by decide +kernel
theorem dX8_makePlan_29 : decode cX8_makePlan 29 = .ok (.aload_n 0, 1) := by decide +kernel
theorem dX8_makePlan_30 : decode cX8_makePlan 30 = .ok (.getfield 19, 3) := by decide +kernel
theorem dX8_makePlan_33 : decode cX8_makePlan 33 = .ok (.getfield 100, 3) := by decide +kernel
theorem dX8_makePlan_36 : decode cX8_makePlan 36 = .ok (.iload_n 1, 1) := by decide +kernel
theorem dX8_makePlan_37 : decode cX8_makePlan 37 = .ok (.aaload, 1) := by decide +kernel
theorem dX8_makePlan_38 : decode cX8_makePlan 38 = .ok (.aload_n 0, 1) := by decide +kernel
theorem dX8_makePlan_39 : decode cX8_makePlan 39 = .ok (.getfield 19, 3) := by decide +kernel
theorem dX8_makePlan_42 : decode cX8_makePlan 42 = .ok (.getfield 100, 3) := by decide +kernel
theorem dX8_makePlan_45 : decode cX8_makePlan 45 = .ok (.iload_n 2, 1) := by decide +kernel
theorem dX8_makePlan_46 : decode cX8_makePlan 46 = .ok (.aaload, 1) := by decide +kernel
theorem dX8_makePlan_47 : decode cX8_makePlan 47 = .ok (.aload_n 0, 1) := by decide +kernel
theorem dX8_makePlan_48 : decode cX8_makePlan 48 = .ok (.getfield 19, 3) := by decide +kernel
theorem dX8_makePlan_51 : decode cX8_makePlan 51 = .ok (.iload_n 1, 1) := by decide +kernel
theorem dX8_makePlan_52 : decode cX8_makePlan 52 = .ok (.invokevirtual 130, 3) := by decide +kernel
theorem dX8_makePlan_55 : decode cX8_makePlan 55 = .ok (.invokevirtual 212, 3) := by decide +kernel
theorem dX8_makePlan_58 : decode cX8_makePlan 58 = .ok (.aload_n 0, 1) := by decide +kernel
theorem dX8_makePlan_59 : decode cX8_makePlan 59 = .ok (.iload_n 1, 1) := by decide +kernel
theorem dX8_makePlan_60 : decode cX8_makePlan 60 = .ok (.putfield 58, 3) := by decide +kernel
theorem dX8_makePlan_63 : decode cX8_makePlan 63 = .ok (.aload_n 0, 1) := by decide +kernel
theorem dX8_makePlan_64 : decode cX8_makePlan 64 = .ok (.iload_n 2, 1) := by decide +kernel
theorem dX8_makePlan_65 : decode cX8_makePlan 65 = .ok (.putfield 62, 3) := by decide +kernel
theorem dX8_makePlan_68 : decode cX8_makePlan 68 = .ok (.return_, 1) := by decide +kernel
theorem dX8_makeReach_0 : decode cX8_makeReach 0 = .ok (.aload_n 0, 1) := by decide +kernel
theorem dX8_makeReach_1 : decode cX8_makeReach 1 = .ok (.getfield 65, 3) := by decide +kernel
theorem dX8_makeReach_4 : decode cX8_makeReach 4 = .ok (.iload_n 1, 1) := by decide +kernel
theorem dX8_makeReach_5 : decode cX8_makeReach 5 = .ok (.if_icmp .ne 12, 3) := by decide +kernel
theorem dX8_makeReach_8 : decode cX8_makeReach 8 = .ok (.aload_n 0, 1) := by decide +kernel
theorem dX8_makeReach_9 : decode cX8_makeReach 9 = .ok (.getfield 68, 3) := by decide +kernel
theorem dX8_makeReach_12 : decode cX8_makeReach 12 = .ok (.iload_n 2, 1) := by decide +kernel
theorem dX8_makeReach_13 : decode cX8_makeReach 13 = .ok (.if_icmp .ne 4, 3) := by decide +kernel
theorem dX8_makeReach_16 : decode cX8_makeReach 16 = .ok (.return_, 1) := by decide +kernel
theorem dX8_makeReach_17 : decode cX8_makeReach 17 = .ok (.aload_n 0, 1) := by decide +kernel
theorem dX8_makeReach_18 : decode cX8_makeReach 18 = .ok (.getfield 54, 3) := by decide +kernel
theorem dX8_makeReach_21 : decode cX8_makeReach 21 = .ok (.aload_n 0, 1) := by decide +kernel
theorem dX8_makeReach_22 : decode cX8_makeReach 22 = .ok (.getfield 12, 3) := by decide +kernel
theorem dX8_makeReach_25 : decode cX8_makeReach 25 = .ok (.aload_n 0, 1) := by decide +kernel
theorem dX8_makeReach_26 : decode cX8_makeReach 26 = .ok (.getfield 19, 3) := by decide +kernel
theorem dX8_makeReach_29 : decode cX8_makeReach 29 = .ok (.getfield 100, 3) := by decide +kernel
theorem dX8_makeReach_32 : decode cX8_makeReach 32 = .ok (.iload_n 1, 1) := by decide +kernel
theorem dX8_makeReach_33 : decode cX8_makeReach 33 = .ok (.aaload, 1) := by decide +kernel
theorem dX8_makeReach_34 : decode cX8_makeReach 34 = .ok (.aload_n 0, 1) := by decide +kernel
theorem dX8_makeReach_35 : decode cX8_makeReach 35 = .ok (.getfield 19, 3) := by decide +kernel
theorem dX8_makeReach_38 : decode cX8_makeReach 38 = .ok (.getfield 100, 3) := by decide +kernel
theorem dX8_makeReach_41 : decode cX8_makeReach 41 = .ok (.iload_n 2, 1) := by decide +kernel
theorem dX8_makeReach_42 : decode cX8_makeReach 42 = .ok (.aaload, 1) := by decide +kernel
theorem dX8_makeReach_43 : decode cX8_makeReach 43 = .ok (.aload_n 0, 1) := by decide +kernel
theorem dX8_makeReach_44 : decode cX8_makeReach 44 = .ok (.getfield 19, 3) := by decide +kernel
theorem dX8_makeReach_47 : decode cX8_makeReach 47 = .ok (.iload_n 1, 1) := by decide +kernel
theorem dX8_makeReach_48 : decode cX8_makeReach 48 = .ok (.invokevirtual 130, 3) := by decide +kernel
theorem dX8_makeReach_51 : decode cX8_makeReach 51 = .ok (.invokevirtual 216, 3) := by decide +kernel
theorem dX8_makeReach_54 : decode cX8_makeReach 54 = .ok (.aload_n 0, 1) := by decide +kernel
theorem dX8_makeReach_55 : decode cX8_makeReach 55 = .ok (.iload_n 1, 1) := by decide +kernel
theorem dX8_makeReach_56 : decode cX8_makeReach 56 = .ok (.putfield 65, 3) := by decide +kernel
theorem dX8_makeReach_59 : decode cX8_makeReach 59 = .ok (.aload_n 0, 1) := by decide +kernel
theorem dX8_makeReach_60 : decode cX8_makeReach 60 = .ok (.iload_n 2, 1) := by decide +kernel
theorem dX8_makeReach_61 : decode cX8_makeReach 61 = .ok (.putfield 68, 3) := by decide +kernel
theorem dX8_makeReach_64 : decode cX8_makeReach 64 = .ok (.return_, 1) := by decide +kernel
theorem dX8_noteChange_0 : decode cX8_noteChange 0 = .ok (.aload_n 0, 1) := by decide +kernel
theorem dX8_noteChange_1 : decode cX8_noteChange 1 = .ok (.getfield 26, 3) := by decide +kernel
theorem dX8_noteChange_4 : decode cX8_noteChange 4 = .ok (.iload_n 1, 1) := by decide +kernel
theorem dX8_noteChange_5 : decode cX8_noteChange 5 = .ok (.iload_n 2, 1) := by decide +kernel
theorem dX8_noteChange_6 : decode cX8_noteChange 6 = .ok (.iload_n 3, 1) := by decide +kernel
theorem dX8_noteChange_7 : decode cX8_noteChange 7 = .ok (.iload 4, 2) := by decide +kernel
theorem dX8_noteChange_9 : decode cX8_noteChange 9 = .ok (.invokevirtual 219, 3) := by decide +kernel
theorem dX8_noteChange_12 : decode cX8_noteChange 12 = .ok (.aload_n 0, 1) := by decide +kernel
theorem dX8_noteChange_13 : decode cX8_noteChange 13 = .ok (.invokevirtual 119, 3) := by decide +kernel
theorem dX8_noteChange_16 : decode cX8_noteChange 16 = .ok (.return_, 1) := by decide +kernel
theorem dX8_forgetResults_0 : decode cX8_forgetResults 0 = .ok (.aload_n 0, 1) := by decide +kernel
theorem dX8_forgetResults_1 : decode cX8_forgetResults 1 = .ok (.iconst (-1), 1) := by decide +kernel
theorem dX8_forgetResults_2 : decode cX8_forgetResults 2 = .ok (.putfield 58, 3) := by decide +kernel
theorem dX8_forgetResults_5 : decode cX8_forgetResults 5 = .ok (.aload_n 0, 1) := by decide +kernel
theorem dX8_forgetResults_6 : decode cX8_forgetResults 6 = .ok (.iconst (-1), 1) := by decide +kernel
theorem dX8_forgetResults_7 : decode cX8_forgetResults 7 = .ok (.putfield 65, 3) := by decide +kernel
theorem dX8_forgetResults_10 : decode cX8_forgetResults 10 = .ok (.return_, 1) := by decide +kernel
theorem dX8_takeBack_0 : decode cX8_takeBack 0 = .ok (.aload_n 0, 1) := by decide +kernel
theorem dX8_takeBack_1 : decode cX8_takeBack 1 = .ok (.getfield 26, 3) := by decide +kernel
theorem dX8_takeBack_4 : decode cX8_takeBack 4 = .ok (.getfield 222, 3) := by decide +kernel
theorem dX8_takeBack_7 : decode cX8_takeBack 7 = .ok (.iload_n 1, 1) := by decide +kernel
theorem dX8_takeBack_8 : decode cX8_takeBack 8 = .ok (.iaload, 1) := by decide +kernel
theorem dX8_takeBack_9 : decode cX8_takeBack 9 = .ok (.istore_n 2, 1) := by decide +kernel
theorem dX8_takeBack_10 : decode cX8_takeBack 10 = .ok (.aload_n 0, 1) := by decide +kernel
theorem dX8_takeBack_11 : decode cX8_takeBack 11 = .ok (.getfield 26, 3) := by decide +kernel
theorem dX8_takeBack_14 : decode cX8_takeBack 14 = .ok (.getfield 225, 3) := by decide +kernel
theorem dX8_takeBack_17 : decode cX8_takeBack 17 = .ok (.iload_n 1, 1) := by decide +kernel
theorem dX8_takeBack_18 : decode cX8_takeBack 18 = .ok (.iaload, 1) := by decide +kernel
theorem dX8_takeBack_19 : decode cX8_takeBack 19 = .ok (.istore_n 3, 1) := by decide +kernel
theorem dX8_takeBack_20 : decode cX8_takeBack 20 = .ok (.aload_n 0, 1) := by decide +kernel
theorem dX8_takeBack_21 : decode cX8_takeBack 21 = .ok (.getfield 26, 3) := by decide +kernel
theorem dX8_takeBack_24 : decode cX8_takeBack 24 = .ok (.getfield 228, 3) := by decide +kernel
theorem dX8_takeBack_27 : decode cX8_takeBack 27 = .ok (.iload_n 1, 1) := by decide +kernel
theorem dX8_takeBack_28 : decode cX8_takeBack 28 = .ok (.iaload, 1) := by decide +kernel
theorem dX8_takeBack_29 : decode cX8_takeBack 29 = .ok (.tableswitch 98 0 3 #[31, 49, 59, 75], 31) := by decide +kernel
theorem dX8_takeBack_60 : decode cX8_takeBack 60 = .ok (.aload_n 0, 1) := by decide +kernel
theorem dX8_takeBack_61 : decode cX8_takeBack 61 = .ok (.getfield 12, 3) := by decide +kernel
theorem dX8_takeBack_64 : decode cX8_takeBack 64 = .ok (.invokevirtual 231, 3) := by decide +kernel
theorem dX8_takeBack_67 : decode cX8_takeBack 67 = .ok (.aload_n 0, 1) := by decide +kernel
theorem dX8_takeBack_68 : decode cX8_takeBack 68 = .ok (.getfield 33, 3) := by decide +kernel
theorem dX8_takeBack_71 : decode cX8_takeBack 71 = .ok (.iload_n 2, 1) := by decide +kernel
theorem dX8_takeBack_72 : decode cX8_takeBack 72 = .ok (.invokevirtual 234, 3) := by decide +kernel
theorem dX8_takeBack_75 : decode cX8_takeBack 75 = .ok (.goto 70, 3) := by decide +kernel
theorem dX8_takeBack_78 : decode cX8_takeBack 78 = .ok (.aload_n 0, 1) := by decide +kernel
theorem dX8_takeBack_79 : decode cX8_takeBack 79 = .ok (.getfield 12, 3) := by decide +kernel
theorem dX8_takeBack_82 : decode cX8_takeBack 82 = .ok (.invokevirtual 237, 3) := by decide +kernel
theorem dX8_takeBack_85 : decode cX8_takeBack 85 = .ok (.goto 60, 3) := by decide +kernel
theorem dX8_takeBack_88 : decode cX8_takeBack 88 = .ok (.aload_n 0, 1) := by decide +kernel
theorem dX8_takeBack_89 : decode cX8_takeBack 89 = .ok (.getfield 19, 3) := by decide +kernel
theorem dX8_takeBack_92 : decode cX8_takeBack 92 = .ok (.dup, 1) := by decide +kernel
theorem dX8_takeBack_93 : decode cX8_takeBack 93 = .ok (.getfield 96, 3) := by decide +kernel
theorem dX8_takeBack_96 : decode cX8_takeBack 96 = .ok (.iconst 1, 1) := by decide +kernel
theorem dX8_takeBack_97 : decode cX8_takeBack 97 = .ok (.isub, 1) := by decide +kernel
theorem dX8_takeBack_98 : decode cX8_takeBack 98 = .ok (.putfield 96, 3) := by decide +kernel
theorem dX8_takeBack_101 : decode cX8_takeBack 101 = .ok (.goto 44, 3) := by decide +kernel
theorem dX8_takeBack_104 : decode cX8_takeBack 104 = .ok (.aload_n 0, 1) := by decide +kernel
theorem dX8_takeBack_105 : decode cX8_takeBack 105 = .ok (.getfield 19, 3) := by decide +kernel
theorem dX8_takeBack_108 : decode cX8_takeBack 108 = .ok (.getfield 100, 3) := by decide +kernel
theorem dX8_takeBack_111 : decode cX8_takeBack 111 = .ok (.iload_n 2, 1) := by decide +kernel
theorem dX8_takeBack_112 : decode cX8_takeBack 112 = .ok (.aaload, 1) := by decide +kernel
theorem dX8_takeBack_113 : decode cX8_takeBack 113 = .ok (.iload_n 3, 1) := by decide +kernel
theorem dX8_takeBack_114 : decode cX8_takeBack 114 = .ok (.aload_n 0, 1) := by decide +kernel
theorem dX8_takeBack_115 : decode cX8_takeBack 115 = .ok (.getfield 26, 3) := by decide +kernel
theorem dX8_takeBack_118 : decode cX8_takeBack 118 = .ok (.getfield 240, 3) := by decide +kernel
theorem dX8_takeBack_121 : decode cX8_takeBack 121 = .ok (.iload_n 1, 1) := by decide +kernel
theorem dX8_takeBack_122 : decode cX8_takeBack 122 = .ok (.iaload, 1) := by decide +kernel
theorem dX8_takeBack_123 : decode cX8_takeBack 123 = .ok (.iastore, 1) := by decide +kernel
theorem dX8_takeBack_124 : decode cX8_takeBack 124 = .ok (.goto 21, 3) := by decide +kernel
theorem dX8_takeBack_127 : decode cX8_takeBack 127 = .ok (.aload_n 0, 1) := by decide +kernel
theorem dX8_takeBack_128 : decode cX8_takeBack 128 = .ok (.getfield 12, 3) := by decide +kernel
theorem dX8_takeBack_131 : decode cX8_takeBack 131 = .ok (.getfield 105, 3) := by decide +kernel
theorem dX8_takeBack_134 : decode cX8_takeBack 134 = .ok (.iload_n 2, 1) := by decide +kernel
theorem dX8_takeBack_135 : decode cX8_takeBack 135 = .ok (.aload_n 0, 1) := by decide +kernel
theorem dX8_takeBack_136 : decode cX8_takeBack 136 = .ok (.getfield 26, 3) := by decide +kernel
theorem dX8_takeBack_139 : decode cX8_takeBack 139 = .ok (.getfield 240, 3) := by decide +kernel
theorem dX8_takeBack_142 : decode cX8_takeBack 142 = .ok (.iload_n 1, 1) := by decide +kernel
theorem dX8_takeBack_143 : decode cX8_takeBack 143 = .ok (.iaload, 1) := by decide +kernel
theorem dX8_takeBack_144 : decode cX8_takeBack 144 = .ok (.iastore, 1) := by decide +kernel
theorem dX8_takeBack_145 : decode cX8_takeBack 145 = .ok (.return_, 1) := by decide +kernel
theorem dJ9_min_7cf53_0 : decode cJ9_min_7cf53 0 = .ok (.iload_n 0, 1) := by decide +kernel
theorem dJ9_min_7cf53_1 : decode cJ9_min_7cf53 1 = .ok (.iload_n 1, 1) := by decide +kernel
theorem dJ9_min_7cf53_2 : decode cJ9_min_7cf53 2 = .ok (.if_icmp .gt 7, 3) := by decide +kernel
theorem dJ9_min_7cf53_5 : decode cJ9_min_7cf53 5 = .ok (.iload_n 0, 1) := by decide +kernel
theorem dJ9_min_7cf53_6 : decode cJ9_min_7cf53 6 = .ok (.goto 4, 3) := by decide +kernel
theorem dJ9_min_7cf53_9 : decode cJ9_min_7cf53 9 = .ok (.iload_n 1, 1) := by decide +kernel
theorem dJ9_min_7cf53_10 : decode cJ9_min_7cf53 10 = .ok (.ireturn, 1) := by decide +kernel
theorem dJ7_fill_53178_0 : decode cJ7_fill_53178 0 = .ok (.iconst 0, 1) := by decide +kernel
theorem dJ7_fill_53178_1 : decode cJ7_fill_53178 1 = .ok (.istore_n 2, 1) := by decide +kernel
theorem dJ7_fill_53178_2 : decode cJ7_fill_53178 2 = .ok (.aload_n 0, 1) := by decide +kernel
theorem dJ7_fill_53178_3 : decode cJ7_fill_53178 3 = .ok (.arraylength, 1) := by decide +kernel
theorem dJ7_fill_53178_4 : decode cJ7_fill_53178 4 = .ok (.istore_n 3, 1) := by decide +kernel
theorem dJ7_fill_53178_5 : decode cJ7_fill_53178 5 = .ok (.iload_n 2, 1) := by decide +kernel
theorem dJ7_fill_53178_6 : decode cJ7_fill_53178 6 = .ok (.iload_n 3, 1) := by decide +kernel
theorem dJ7_fill_53178_7 : decode cJ7_fill_53178 7 = .ok (.if_icmp .ge 13, 3) := by decide +kernel
theorem dJ7_fill_53178_10 : decode cJ7_fill_53178 10 = .ok (.aload_n 0, 1) := by decide +kernel
theorem dJ7_fill_53178_11 : decode cJ7_fill_53178 11 = .ok (.iload_n 2, 1) := by decide +kernel
theorem dJ7_fill_53178_12 : decode cJ7_fill_53178 12 = .ok (.iload_n 1, 1) := by decide +kernel
theorem dJ7_fill_53178_13 : decode cJ7_fill_53178 13 = .ok (.iastore, 1) := by decide +kernel
theorem dJ7_fill_53178_14 : decode cJ7_fill_53178 14 = .ok (.iinc 2 1, 3) := by decide +kernel
theorem dJ7_fill_53178_17 : decode cJ7_fill_53178 17 = .ok (.goto (-12), 3) := by decide +kernel
theorem dJ7_fill_53178_20 : decode cJ7_fill_53178 20 = .ok (.return_, 1) := by decide +kernel
