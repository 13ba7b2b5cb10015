theorem dX0_init_0 : decode cX0_init 0 = .ok (.aload_n 0, 1) := by decide +kernel
theorem dX0_init_1 : decode cX0_init 1 = .ok (.invokespecial 1, 3) := by decide +kernel
theorem dX0_init_4 : decode cX0_init 4 = .ok (.aload_n 0, 1) := by decide +kernel
theorem dX0_init_5 : decode cX0_init 5 = .ok (.iload_n 1, 1) := by decide +kernel
theorem dX0_init_6 : decode cX0_init 6 = .ok (.putfield 7, 3) := by decide +kernel
theorem dX0_init_9 : decode cX0_init 9 = .ok (.return_, 1) := by decide +kernel
theorem dX0_isFree_0 : decode cX0_isFree 0 = .ok (.aload_n 0, 1) := by decide +kernel
theorem dX0_isFree_1 : decode cX0_isFree 1 = .ok (.getfield 13, 3) := by decide +kernel
theorem dX0_isFree_4 : decode cX0_isFree 4 = .ok (.ifnonnull 14, 3) := by decide +kernel
theorem dX0_isFree_7 : decode cX0_isFree 7 = .ok (.aload_n 0, 1) := by decide +kernel
theorem dX0_isFree_8 : decode cX0_isFree 8 = .ok (.getfield 17, 3) := by decide +kernel
theorem dX0_isFree_11 : decode cX0_isFree 11 = .ok (.ifCond .ne 7, 3) := by decide +kernel
theorem dX0_isFree_14 : decode cX0_isFree 14 = .ok (.iconst 1, 1) := by decide +kernel
theorem dX0_isFree_15 : decode cX0_isFree 15 = .ok (.goto 4, 3) := by decide +kernel
theorem dX0_isFree_18 : decode cX0_isFree 18 = .ok (.iconst 0, 1) := by decide +kernel
theorem dX0_isFree_19 : decode cX0_isFree 19 = .ok (.ireturn, 1) := by decide +kernel
theorem dX0_isSoundEnd_0 : decode cX0_isSoundEnd 0 = .ok (.aload_n 0, 1) := by decide +kernel
theorem dX0_isSoundEnd_1 : decode cX0_isSoundEnd 1 = .ok (.getfield 13, 3) := by decide +kernel
theorem dX0_isSoundEnd_4 : decode cX0_isSoundEnd 4 = .ok (.ifnull 35, 3) := by decide +kernel
theorem dX0_isSoundEnd_7 : decode cX0_isSoundEnd 7 = .ok (.aload_n 0, 1) := by decide +kernel
theorem dX0_isSoundEnd_8 : decode cX0_isSoundEnd 8 = .ok (.getfield 13, 3) := by decide +kernel
theorem dX0_isSoundEnd_11 : decode cX0_isSoundEnd 11 = .ok (.getfield 13, 3) := by decide +kernel
theorem dX0_isSoundEnd_14 : decode cX0_isSoundEnd 14 = .ok (.aload_n 0, 1) := by decide +kernel
theorem dX0_isSoundEnd_15 : decode cX0_isSoundEnd 15 = .ok (.if_acmp .ne 28, 3) := by decide +kernel
theorem dX0_isSoundEnd_18 : decode cX0_isSoundEnd 18 = .ok (.aload_n 0, 1) := by decide +kernel
theorem dX0_isSoundEnd_19 : decode cX0_isSoundEnd 19 = .ok (.getfield 13, 3) := by decide +kernel
theorem dX0_isSoundEnd_22 : decode cX0_isSoundEnd 22 = .ok (.getfield 7, 3) := by decide +kernel
theorem dX0_isSoundEnd_25 : decode cX0_isSoundEnd 25 = .ok (.aload_n 0, 1) := by decide +kernel
theorem dX0_isSoundEnd_26 : decode cX0_isSoundEnd 26 = .ok (.getfield 7, 3) := by decide +kernel
theorem dX0_isSoundEnd_29 : decode cX0_isSoundEnd 29 = .ok (.if_icmp .eq 14, 3) := by decide +kernel
theorem dX0_isSoundEnd_32 : decode cX0_isSoundEnd 32 = .ok (.aload_n 0, 1) := by decide +kernel
theorem dX0_isSoundEnd_33 : decode cX0_isSoundEnd 33 = .ok (.getfield 17, 3) := by decide +kernel
theorem dX0_isSoundEnd_36 : decode cX0_isSoundEnd 36 = .ok (.ifCond .ne 7, 3) := by decide +kernel
theorem dX0_isSoundEnd_39 : decode cX0_isSoundEnd 39 = .ok (.iconst 1, 1) := by decide +kernel
theorem dX0_isSoundEnd_40 : decode cX0_isSoundEnd 40 = .ok (.goto 4, 3) := by decide +kernel
theorem dX0_isSoundEnd_43 : decode cX0_isSoundEnd 43 = .ok (.iconst 0, 1) := by decide +kernel
theorem dX0_isSoundEnd_44 : decode cX0_isSoundEnd 44 = .ok (.ireturn, 1) := by decide +kernel
theorem dX1_init_0 : decode cX1_init 0 = .ok (.aload_n 0, 1) := by decide +kernel
theorem dX1_init_1 : decode cX1_init 1 = .ok (.invokespecial 1, 3) := by decide +kernel
theorem dX1_init_4 : decode cX1_init 4 = .ok (.aload_n 0, 1) := by decide +kernel
theorem dX1_init_5 : decode cX1_init 5 = .ok (.iload_n 1, 1) := by decide +kernel
theorem dX1_init_6 : decode cX1_init 6 = .ok (.putfield 7, 3) := by decide +kernel
theorem dX1_init_9 : decode cX1_init 9 = .ok (.return_, 1) := by decide +kernel
theorem dX1_putPaper_0 : decode cX1_putPaper 0 = .ok (.aload_n 0, 1) := by decide +kernel
theorem dX1_putPaper_1 : decode cX1_putPaper 1 = .ok (.getfield 13, 3) := by decide +kernel
theorem dX1_putPaper_4 : decode cX1_putPaper 4 = .ok (.istore_n 2, 1) := by decide +kernel
theorem dX1_putPaper_5 : decode cX1_putPaper 5 = .ok (.aload_n 0, 1) := by decide +kernel
theorem dX1_putPaper_6 : decode cX1_putPaper 6 = .ok (.iload_n 1, 1) := by decide +kernel
theorem dX1_putPaper_7 : decode cX1_putPaper 7 = .ok (.putfield 13, 3) := by decide +kernel
theorem dX1_putPaper_10 : decode cX1_putPaper 10 = .ok (.iload_n 2, 1) := by decide +kernel
theorem dX1_putPaper_11 : decode cX1_putPaper 11 = .ok (.ireturn, 1) := by decide +kernel
theorem dX1_canServe_0 : decode cX1_canServe 0 = .ok (.aload_n 0, 1) := by decide +kernel
theorem dX1_canServe_1 : decode cX1_canServe 1 = .ok (.getfield 17, 3) := by decide +kernel
theorem dX1_canServe_4 : decode cX1_canServe 4 = .ok (.iload_n 2, 1) := by decide +kernel
theorem dX1_canServe_5 : decode cX1_canServe 5 = .ok (.if_icmp .ne 22, 3) := by decide +kernel
theorem dX1_canServe_8 : decode cX1_canServe 8 = .ok (.aload_n 0, 1) := by decide +kernel
theorem dX1_canServe_9 : decode cX1_canServe 9 = .ok (.getfield 13, 3) := by decide +kernel
theorem dX1_canServe_12 : decode cX1_canServe 12 = .ok (.ifCond .eq 15, 3) := by decide +kernel
theorem dX1_canServe_15 : decode cX1_canServe 15 = .ok (.aload_n 0, 1) := by decide +kernel
theorem dX1_canServe_16 : decode cX1_canServe 16 = .ok (.getfield 20, 3) := by decide +kernel
theorem dX1_canServe_19 : decode cX1_canServe 19 = .ok (.iload_n 1, 1) := by decide +kernel
theorem dX1_canServe_20 : decode cX1_canServe 20 = .ok (.if_icmp .lt 7, 3) := by decide +kernel
theorem dX1_canServe_23 : decode cX1_canServe 23 = .ok (.iconst 1, 1) := by decide +kernel
theorem dX1_canServe_24 : decode cX1_canServe 24 = .ok (.goto 4, 3) := by decide +kernel
theorem dX1_canServe_27 : decode cX1_canServe 27 = .ok (.iconst 0, 1) := by decide +kernel
theorem dX1_canServe_28 : decode cX1_canServe 28 = .ok (.ireturn, 1) := by decide +kernel
theorem dX2_init_0 : decode cX2_init 0 = .ok (.aload_n 0, 1) := by decide +kernel
theorem dX2_init_1 : decode cX2_init 1 = .ok (.invokespecial 3, 3) := by decide +kernel
theorem dX2_init_4 : decode cX2_init 4 = .ok (.aload_n 0, 1) := by decide +kernel
theorem dX2_init_5 : decode cX2_init 5 = .ok (.bipush 110, 2) := by decide +kernel
theorem dX2_init_7 : decode cX2_init 7 = .ok (.putfield 9, 3) := by decide +kernel
theorem dX2_init_10 : decode cX2_init 10 = .ok (.return_, 1) := by decide +kernel
theorem dX2_fuse_0 : decode cX2_fuse 0 = .ok (.aload_n 0, 1) := by decide +kernel
theorem dX2_fuse_1 : decode cX2_fuse 1 = .ok (.bipush 119, 2) := by decide +kernel
theorem dX2_fuse_3 : decode cX2_fuse 3 = .ok (.putfield 9, 3) := by decide +kernel
theorem dX2_fuse_6 : decode cX2_fuse 6 = .ok (.aload_n 0, 1) := by decide +kernel
theorem dX2_fuse_7 : decode cX2_fuse 7 = .ok (.aload_n 1, 1) := by decide +kernel
theorem dX2_fuse_8 : decode cX2_fuse 8 = .ok (.putfield 15, 3) := by decide +kernel
theorem dX2_fuse_11 : decode cX2_fuse 11 = .ok (.return_, 1) := by decide +kernel
theorem dX2_renew_0 : decode cX2_renew 0 = .ok (.aload_n 0, 1) := by decide +kernel
theorem dX2_renew_1 : decode cX2_renew 1 = .ok (.bipush 110, 2) := by decide +kernel
theorem dX2_renew_3 : decode cX2_renew 3 = .ok (.putfield 9, 3) := by decide +kernel
theorem dX2_renew_6 : decode cX2_renew 6 = .ok (.aload_n 0, 1) := by decide +kernel
theorem dX2_renew_7 : decode cX2_renew 7 = .ok (.iconst 0, 1) := by decide +kernel
theorem dX2_renew_8 : decode cX2_renew 8 = .ok (.putfield 19, 3) := by decide +kernel
theorem dX2_renew_11 : decode cX2_renew 11 = .ok (.aload_n 0, 1) := by decide +kernel
theorem dX2_renew_12 : decode cX2_renew 12 = .ok (.aconst_null, 1) := by decide +kernel
theorem dX2_renew_13 : decode cX2_renew 13 = .ok (.putfield 15, 3) := by decide +kernel
theorem dX2_renew_16 : decode cX2_renew 16 = .ok (.return_, 1) := by decide +kernel
theorem dX2_isLookedAt_0 : decode cX2_isLookedAt 0 = .ok (.aload_n 0, 1) := by decide +kernel
theorem dX2_isLookedAt_1 : decode cX2_isLookedAt 1 = .ok (.getfield 9, 3) := by decide +kernel
theorem dX2_isLookedAt_4 : decode cX2_isLookedAt 4 = .ok (.bipush 103, 2) := by decide +kernel
theorem dX2_isLookedAt_6 : decode cX2_isLookedAt 6 = .ok (.if_icmp .eq 12, 3) := by decide +kernel
theorem dX2_isLookedAt_9 : decode cX2_isLookedAt 9 = .ok (.aload_n 0, 1) := by decide +kernel
theorem dX2_isLookedAt_10 : decode cX2_isLookedAt 10 = .ok (.getfield 9, 3) := by decide +kernel
theorem dX2_isLookedAt_13 : decode cX2_isLookedAt 13 = .ok (.bipush 98, 2) := by decide +kernel
theorem dX2_isLookedAt_15 : decode cX2_isLookedAt 15 = .ok (.if_icmp .ne 7, 3) := by decide +kernel
theorem dX2_isLookedAt_18 : decode cX2_isLookedAt 18 = .ok (.iconst 1, 1) := by decide +kernel
theorem dX2_isLookedAt_19 : decode cX2_isLookedAt 19 = .ok (.goto 4, 3) := by decide +kernel
theorem dX2_isLookedAt_22 : decode cX2_isLookedAt 22 = .ok (.iconst 0, 1) := by decide +kernel
theorem dX2_isLookedAt_23 : decode cX2_isLookedAt 23 = .ok (.ireturn, 1) := by decide +kernel
theorem dX3_init_0 : decode cX3_init 0 = .ok (.aload_n 0, 1) := by decide +kernel
theorem dX3_init_1 : decode cX3_init 1 = .ok (.invokespecial 3, 3) := by decide +kernel
theorem dX3_init_4 : decode cX3_init 4 = .ok (.aload_n 0, 1) := by decide +kernel
theorem dX3_init_5 : decode cX3_init 5 = .ok (.bipush 10, 2) := by decide +kernel
theorem dX3_init_7 : decode cX3_init 7 = .ok (.anewarray 9, 3) := by decide +kernel
theorem dX3_init_10 : decode cX3_init 10 = .ok (.putfield 11, 3) := by decide +kernel
theorem dX3_init_13 : decode cX3_init 13 = .ok (.aload_n 0, 1) := by decide +kernel
theorem dX3_init_14 : decode cX3_init 14 = .ok (.bipush 9, 2) := by decide +kernel
theorem dX3_init_16 : decode cX3_init 16 = .ok (.anewarray 17, 3) := by decide +kernel
theorem dX3_init_19 : decode cX3_init 19 = .ok (.putfield 19, 3) := by decide +kernel
theorem dX3_init_22 : decode cX3_init 22 = .ok (.iconst 0, 1) := by decide +kernel
theorem dX3_init_23 : decode cX3_init 23 = .ok (.istore_n 2, 1) := by decide +kernel
theorem dX3_init_24 : decode cX3_init 24 = .ok (.iload_n 2, 1) := by decide +kernel
theorem dX3_init_25 : decode cX3_init 25 = .ok (.bipush 10, 2) := by decide +kernel
theorem dX3_init_27 : decode cX3_init 27 = .ok (.if_icmp .ge 22, 3) := by decide +kernel
theorem dX3_init_30 : decode cX3_init 30 = .ok (.aload_n 0, 1) := by decide +kernel
theorem dX3_init_31 : decode cX3_init 31 = .ok (.getfield 11, 3) := by decide +kernel
theorem dX3_init_34 : decode cX3_init 34 = .ok (.iload_n 2, 1) := by decide +kernel
theorem dX3_init_35 : decode cX3_init 35 = .ok (.new 9, 3) := by decide +kernel
theorem dX3_init_38 : decode cX3_init 38 = .ok (.dup, 1) := by decide +kernel
theorem dX3_init_39 : decode cX3_init 39 = .ok (.invokespecial 23, 3) := by decide +kernel
theorem dX3_init_42 : decode cX3_init 42 = .ok (.aastore, 1) := by decide +kernel
theorem dX3_init_43 : decode cX3_init 43 = .ok (.iinc 2 1, 3) := by decide +kernel
theorem dX3_init_46 : decode cX3_init 46 = .ok (.goto (-22), 3) := by decide +kernel
theorem dX3_init_49 : decode cX3_init 49 = .ok (.iconst 0, 1) := by decide +kernel
theorem dX3_init_50 : decode cX3_init 50 = .ok (.istore_n 2, 1) := by decide +kernel
theorem dX3_init_51 : decode cX3_init 51 = .ok (.iload_n 2, 1) := by decide +kernel
theorem dX3_init_52 : decode cX3_init 52 = .ok (.bipush 9, 2) := by decide +kernel
theorem dX3_init_54 : decode cX3_init 54 = .ok (.if_icmp .ge 22, 3) := by decide +kernel
theorem dX3_init_57 : decode cX3_init 57 = .ok (.aload_n 0, 1) := by decide +kernel
theorem dX3_init_58 : decode cX3_init 58 = .ok (.getfield 19, 3) := by decide +kernel
theorem dX3_init_61 : decode cX3_init 61 = .ok (.iload_n 2, 1) := by decide +kernel
theorem dX3_init_62 : decode cX3_init 62 = .ok (.new 17, 3) := by decide +kernel
theorem dX3_init_65 : decode cX3_init 65 = .ok (.dup, 1) := by decide +kernel
theorem dX3_init_66 : decode cX3_init 66 = .ok (.invokespecial 24, 3) := by decide +kernel
theorem dX3_init_69 : decode cX3_init 69 = .ok (.aastore, 1) := by decide +kernel
theorem dX3_init_70 : decode cX3_init 70 = .ok (.iinc 2 1, 3) := by decide +kernel
theorem dX3_init_73 : decode cX3_init 73 = .ok (.goto (-22), 3) := by decide +kernel
theorem dX3_init_76 : decode cX3_init 76 = .ok (.aload_n 0, 1) := by decide +kernel
theorem dX3_init_77 : decode cX3_init 77 = .ok (.new 25, 3) := by decide +kernel
theorem dX3_init_80 : decode cX3_init 80 = .ok (.dup, 1) := by decide +kernel
theorem dX3_init_81 : decode cX3_init 81 = .ok (.iload_n 1, 1) := by decide +kernel
theorem dX3_init_82 : decode cX3_init 82 = .ok (.invokespecial 27, 3) := by decide +kernel
theorem dX3_init_85 : decode cX3_init 85 = .ok (.putfield 30, 3) := by decide +kernel
theorem dX3_init_88 : decode cX3_init 88 = .ok (.aload_n 0, 1) := by decide +kernel
theorem dX3_init_89 : decode cX3_init 89 = .ok (.new 25, 3) := by decide +kernel
theorem dX3_init_92 : decode cX3_init 92 = .ok (.dup, 1) := by decide +kernel
theorem dX3_init_93 : decode cX3_init 93 = .ok (.iload_n 1, 1) := by decide +kernel
theorem dX3_init_94 : decode cX3_init 94 = .ok (.invokespecial 27, 3) := by decide +kernel
theorem dX3_init_97 : decode cX3_init 97 = .ok (.putfield 34, 3) := by decide +kernel
theorem dX3_init_100 : decode cX3_init 100 = .ok (.return_, 1) := by decide +kernel
theorem dX3_append_0 : decode cX3_append 0 = .ok (.aload_n 0, 1) := by decide +kernel
theorem dX3_append_1 : decode cX3_append 1 = .ok (.getfield 11, 3) := by decide +kernel
theorem dX3_append_4 : decode cX3_append 4 = .ok (.aload_n 0, 1) := by decide +kernel
theorem dX3_append_5 : decode cX3_append 5 = .ok (.getfield 37, 3) := by decide +kernel
theorem dX3_append_8 : decode cX3_append 8 = .ok (.aaload, 1) := by decide +kernel
theorem dX3_append_9 : decode cX3_append 9 = .ok (.iload_n 1, 1) := by decide +kernel
theorem dX3_append_10 : decode cX3_append 10 = .ok (.putfield 41, 3) := by decide +kernel
theorem dX3_append_13 : decode cX3_append 13 = .ok (.aload_n 0, 1) := by decide +kernel
theorem dX3_append_14 : decode cX3_append 14 = .ok (.getfield 11, 3) := by decide +kernel
theorem dX3_append_17 : decode cX3_append 17 = .ok (.aload_n 0, 1) := by decide +kernel
theorem dX3_append_18 : decode cX3_append 18 = .ok (.getfield 37, 3) := by decide +kernel
theorem dX3_append_21 : decode cX3_append 21 = .ok (.aaload, 1) := by decide +kernel
theorem dX3_append_22 : decode cX3_append 22 = .ok (.iload_n 2, 1) := by decide +kernel
theorem dX3_append_23 : decode cX3_append 23 = .ok (.putfield 45, 3) := by decide +kernel
theorem dX3_append_26 : decode cX3_append 26 = .ok (.aload_n 0, 1) := by decide +kernel
theorem dX3_append_27 : decode cX3_append 27 = .ok (.dup, 1) := by decide +kernel
theorem dX3_append_28 : decode cX3_append 28 = .ok (.getfield 37, 3) := by decide +kernel
theorem dX3_append_31 : decode cX3_append 31 = .ok (.iconst 1, 1) := by decide +kernel
theorem dX3_append_32 : decode cX3_append 32 = .ok (.iadd, 1) := by decide +kernel
theorem dX3_append_33 : decode cX3_append 33 = .ok (.putfield 37, 3) := by decide +kernel
theorem dX3_append_36 : decode cX3_append 36 = .ok (.aload_n 0, 1) := by decide +kernel
theorem dX3_append_37 : decode cX3_append 37 = .ok (.iconst 0, 1) := by decide +kernel
theorem dX3_append_38 : decode cX3_append 38 = .ok (.putfield 48, 3) := by decide +kernel
theorem dX3_append_41 : decode cX3_append 41 = .ok (.return_, 1) := by decide +kernel
theorem dX3_endAt_0 : decode cX3_endAt 0 = .ok (.iload_n 1, 1) := by decide +kernel
theorem dX3_endAt_1 : decode cX3_endAt 1 = .ok (.ifCond .eq 10, 3) := by decide +kernel
theorem dX3_endAt_4 : decode cX3_endAt 4 = .ok (.aload_n 0, 1) := by decide +kernel
theorem dX3_endAt_5 : decode cX3_endAt 5 = .ok (.getfield 34, 3) := by decide +kernel
theorem dX3_endAt_8 : decode cX3_endAt 8 = .ok (.goto 7, 3) := by decide +kernel
theorem dX3_endAt_11 : decode cX3_endAt 11 = .ok (.aload_n 0, 1) := by decide +kernel
theorem dX3_endAt_12 : decode cX3_endAt 12 = .ok (.getfield 30, 3) := by decide +kernel
theorem dX3_endAt_15 : decode cX3_endAt 15 = .ok (.areturn, 1) := by decide +kernel
theorem dX3_jointCount_0 : decode cX3_jointCount 0 = .ok (.aload_n 0, 1) := by decide +kernel
theorem dX3_jointCount_1 : decode cX3_jointCount 1 = .ok (.getfield 37, 3) := by decide +kernel
theorem dX3_jointCount_4 : decode cX3_jointCount 4 = .ok (.ifCond .ne 7, 3) := by decide +kernel
theorem dX3_jointCount_7 : decode cX3_jointCount 7 = .ok (.iconst 0, 1) := by decide +kernel
theorem dX3_jointCount_8 : decode cX3_jointCount 8 = .ok (.goto 9, 3) := by decide +kernel
theorem dX3_jointCount_11 : decode cX3_jointCount 11 = .ok (.aload_n 0, 1) := by decide +kernel
theorem dX3_jointCount_12 : decode cX3_jointCount 12 = .ok (.getfield 37, 3) := by decide +kernel
theorem dX3_jointCount_15 : decode cX3_jointCount 15 = .ok (.iconst 1, 1) := by decide +kernel
theorem dX3_jointCount_16 : decode cX3_jointCount 16 = .ok (.isub, 1) := by decide +kernel
theorem dX3_jointCount_17 : decode cX3_jointCount 17 = .ok (.ireturn, 1) := by decide +kernel
theorem dX3_totalSize_0 : decode cX3_totalSize 0 = .ok (.iconst 0, 1) := by decide +kernel
theorem dX3_totalSize_1 : decode cX3_totalSize 1 = .ok (.istore_n 1, 1) := by decide +kernel
theorem dX3_totalSize_2 : decode cX3_totalSize 2 = .ok (.iconst 0, 1) := by decide +kernel
theorem dX3_totalSize_3 : decode cX3_totalSize 3 = .ok (.istore_n 2, 1) := by decide +kernel
theorem dX3_totalSize_4 : decode cX3_totalSize 4 = .ok (.iload_n 2, 1) := by decide +kernel
theorem dX3_totalSize_5 : decode cX3_totalSize 5 = .ok (.aload_n 0, 1) := by decide +kernel
theorem dX3_totalSize_6 : decode cX3_totalSize 6 = .ok (.getfield 37, 3) := by decide +kernel
theorem dX3_totalSize_9 : decode cX3_totalSize 9 = .ok (.if_icmp .ge 21, 3) := by decide +kernel
theorem dX3_totalSize_12 : decode cX3_totalSize 12 = .ok (.iload_n 1, 1) := by decide +kernel
theorem dX3_totalSize_13 : decode cX3_totalSize 13 = .ok (.aload_n 0, 1) := by decide +kernel
theorem dX3_totalSize_14 : decode cX3_totalSize 14 = .ok (.getfield 11, 3) := by decide +kernel
theorem dX3_totalSize_17 : decode cX3_totalSize 17 = .ok (.iload_n 2, 1) := by decide +kernel
theorem dX3_totalSize_18 : decode cX3_totalSize 18 = .ok (.aaload, 1) := by decide +kernel
theorem dX3_totalSize_19 : decode cX3_totalSize 19 = .ok (.getfield 45, 3) := by decide +kernel
theorem dX3_totalSize_22 : decode cX3_totalSize 22 = .ok (.iadd, 1) := by decide +kernel
theorem dX3_totalSize_23 : decode cX3_totalSize 23 = .ok (.istore_n 1, 1) := by decide +kernel
theorem dX3_totalSize_24 : decode cX3_totalSize 24 = .ok (.iinc 2 1, 3) := by decide +kernel
theorem dX3_totalSize_27 : decode cX3_totalSize 27 = .ok (.goto (-23), 3) := by decide +kernel
theorem dX3_totalSize_30 : decode cX3_totalSize 30 = .ok (.iload_n 1, 1) := by decide +kernel
theorem dX3_totalSize_31 : decode cX3_totalSize 31 = .ok (.ireturn, 1) := by decide +kernel
theorem dX3_spoolCount_0 : decode cX3_spoolCount 0 = .ok (.aload_n 0, 1) := by decide +kernel
theorem dX3_spoolCount_1 : decode cX3_spoolCount 1 = .ok (.getfield 37, 3) := by decide +kernel
theorem dX3_spoolCount_4 : decode cX3_spoolCount 4 = .ok (.ifCond .ne 7, 3) := by decide +kernel
theorem dX3_spoolCount_7 : decode cX3_spoolCount 7 = .ok (.iconst 0, 1) := by decide +kernel
theorem dX3_spoolCount_8 : decode cX3_spoolCount 8 = .ok (.goto 15, 3) := by decide +kernel
theorem dX3_spoolCount_11 : decode cX3_spoolCount 11 = .ok (.aload_n 0, 1) := by decide +kernel
theorem dX3_spoolCount_12 : decode cX3_spoolCount 12 = .ok (.aload_n 0, 1) := by decide +kernel
theorem dX3_spoolCount_13 : decode cX3_spoolCount 13 = .ok (.getfield 37, 3) := by decide +kernel
theorem dX3_spoolCount_16 : decode cX3_spoolCount 16 = .ok (.iconst 1, 1) := by decide +kernel
theorem dX3_spoolCount_17 : decode cX3_spoolCount 17 = .ok (.isub, 1) := by decide +kernel
theorem dX3_spoolCount_18 : decode cX3_spoolCount 18 = .ok (.invokevirtual 52, 3) := by decide +kernel
theorem dX3_spoolCount_21 : decode cX3_spoolCount 21 = .ok (.iconst 1, 1) := by decide +kernel
theorem dX3_spoolCount_22 : decode cX3_spoolCount 22 = .ok (.iadd, 1) := by decide +kernel
theorem dX3_spoolCount_23 : decode cX3_spoolCount 23 = .ok (.ireturn, 1) := by decide +kernel
theorem dX3_spoolWith_0 : decode cX3_spoolWith 0 = .ok (.iconst 0, 1) := by decide +kernel
theorem dX3_spoolWith_1 : decode cX3_spoolWith 1 = .ok (.istore_n 2, 1) := by decide +kernel
theorem dX3_spoolWith_2 : decode cX3_spoolWith 2 = .ok (.iconst 0, 1) := by decide +kernel
theorem dX3_spoolWith_3 : decode cX3_spoolWith 3 = .ok (.istore_n 3, 1) := by decide +kernel
theorem dX3_spoolWith_4 : decode cX3_spoolWith 4 = .ok (.iconst 0, 1) := by decide +kernel
theorem dX3_spoolWith_5 : decode cX3_spoolWith 5 = .ok (.istore 4, 2) := by decide +kernel
theorem dX3_spoolWith_7 : decode cX3_spoolWith 7 = .ok (.iconst 0, 1) := by decide +kernel
theorem dX3_spoolWith_8 : decode cX3_spoolWith 8 = .ok (.istore 5, 2) := by decide +kernel
theorem dX3_spoolWith_10 : decode cX3_spoolWith 10 = .ok (.iload 5, 2) := by decide +kernel
theorem dX3_spoolWith_12 : decode cX3_spoolWith 12 = .ok (.iload_n 1, 1) := by decide +kernel
theorem dX3_spoolWith_13 : decode cX3_spoolWith 13 = .ok (.if_icmp .gt 86, 3) := by decide +kernel
theorem dX3_spoolWith_16 : decode cX3_spoolWith 16 = .ok (.aload_n 0, 1) := by decide +kernel
theorem dX3_spoolWith_17 : decode cX3_spoolWith 17 = .ok (.getfield 11, 3) := by decide +kernel
theorem dX3_spoolWith_20 : decode cX3_spoolWith 20 = .ok (.iload 5, 2) := by decide +kernel
theorem dX3_spoolWith_22 : decode cX3_spoolWith 22 = .ok (.aaload, 1) := by decide +kernel
theorem dX3_spoolWith_23 : decode cX3_spoolWith 23 = .ok (.getfield 41, 3) := by decide +kernel
theorem dX3_spoolWith_26 : decode cX3_spoolWith 26 = .ok (.bipush 101, 2) := by decide +kernel
theorem dX3_spoolWith_28 : decode cX3_spoolWith 28 = .ok (.if_icmp .ne 7, 3) := by decide +kernel
theorem dX3_spoolWith_31 : decode cX3_spoolWith 31 = .ok (.iconst 1, 1) := by decide +kernel
theorem dX3_spoolWith_32 : decode cX3_spoolWith 32 = .ok (.goto 4, 3) := by decide +kernel
theorem dX3_spoolWith_35 : decode cX3_spoolWith 35 = .ok (.iconst 0, 1) := by decide +kernel
theorem dX3_spoolWith_36 : decode cX3_spoolWith 36 = .ok (.istore 6, 2) := by decide +kernel
theorem dX3_spoolWith_38 : decode cX3_spoolWith 38 = .ok (.iload_n 3, 1) := by decide +kernel
theorem dX3_spoolWith_39 : decode cX3_spoolWith 39 = .ok (.aload_n 0, 1) := by decide +kernel
theorem dX3_spoolWith_40 : decode cX3_spoolWith 40 = .ok (.getfield 11, 3) := by decide +kernel
theorem dX3_spoolWith_43 : decode cX3_spoolWith 43 = .ok (.iload 5, 2) := by decide +kernel
theorem dX3_spoolWith_45 : decode cX3_spoolWith 45 = .ok (.aaload, 1) := by decide +kernel
theorem dX3_spoolWith_46 : decode cX3_spoolWith 46 = .ok (.getfield 45, 3) := by decide +kernel
theorem dX3_spoolWith_49 : decode cX3_spoolWith 49 = .ok (.iadd, 1) := by decide +kernel
theorem dX3_spoolWith_50 : decode cX3_spoolWith 50 = .ok (.sipush 12000, 3) := by decide +kernel
theorem dX3_spoolWith_53 : decode cX3_spoolWith 53 = .ok (.if_icmp .gt 12, 3) := by decide +kernel
theorem dX3_spoolWith_56 : decode cX3_spoolWith 56 = .ok (.iload 4, 2) := by decide +kernel
theorem dX3_spoolWith_58 : decode cX3_spoolWith 58 = .ok (.iload 6, 2) := by decide +kernel
theorem dX3_spoolWith_60 : decode cX3_spoolWith 60 = .ok (.iadd, 1) := by decide +kernel
theorem dX3_spoolWith_61 : decode cX3_spoolWith 61 = .ok (.iconst 2, 1) := by decide +kernel
theorem dX3_spoolWith_62 : decode cX3_spoolWith 62 = .ok (.if_icmp .le 11, 3) := by decide +kernel
theorem dX3_spoolWith_65 : decode cX3_spoolWith 65 = .ok (.iinc 2 1, 3) := by decide +kernel
theorem dX3_spoolWith_68 : decode cX3_spoolWith 68 = .ok (.iconst 0, 1) := by decide +kernel
theorem dX3_spoolWith_69 : decode cX3_spoolWith 69 = .ok (.istore_n 3, 1) := by decide +kernel
theorem dX3_spoolWith_70 : decode cX3_spoolWith 70 = .ok (.iconst 0, 1) := by decide +kernel
theorem dX3_spoolWith_71 : decode cX3_spoolWith 71 = .ok (.istore 4, 2) := by decide +kernel
theorem dX3_spoolWith_73 : decode cX3_spoolWith 73 = .ok (.iload_n 3, 1) := by decide +kernel
theorem dX3_spoolWith_74 : decode cX3_spoolWith 74 = .ok (.aload_n 0, 1) := by decide +kernel
theorem dX3_spoolWith_75 : decode cX3_spoolWith 75 = .ok (.getfield 11, 3) := by decide +kernel
theorem dX3_spoolWith_78 : decode cX3_spoolWith 78 = .ok (.iload 5, 2) := by decide +kernel
theorem dX3_spoolWith_80 : decode cX3_spoolWith 80 = .ok (.aaload, 1) := by decide +kernel
theorem dX3_spoolWith_81 : decode cX3_spoolWith 81 = .ok (.getfield 45, 3) := by decide +kernel
theorem dX3_spoolWith_84 : decode cX3_spoolWith 84 = .ok (.iadd, 1) := by decide +kernel
theorem dX3_spoolWith_85 : decode cX3_spoolWith 85 = .ok (.istore_n 3, 1) := by decide +kernel
theorem dX3_spoolWith_86 : decode cX3_spoolWith 86 = .ok (.iload 4, 2) := by decide +kernel
theorem dX3_spoolWith_88 : decode cX3_spoolWith 88 = .ok (.iload 6, 2) := by decide +kernel
theorem dX3_spoolWith_90 : decode cX3_spoolWith 90 = .ok (.iadd, 1) := by decide +kernel
theorem dX3_spoolWith_91 : decode cX3_spoolWith 91 = .ok (.istore 4, 2) := by decide +kernel
theorem dX3_spoolWith_93 : decode cX3_spoolWith 93 = .ok (.iinc 5 1, 3) := by decide +kernel
theorem dX3_spoolWith_96 : decode cX3_spoolWith 96 = .ok (.goto (-86), 3) := by decide +kernel
theorem dX3_spoolWith_99 : decode cX3_spoolWith 99 = .ok (.iload_n 2, 1) := by decide +kernel
theorem dX3_spoolWith_100 : decode cX3_spoolWith 100 = .ok (.ireturn, 1) := by decide +kernel
theorem dX3_undoBeside_0 : decode cX3_undoBeside 0 = .ok (.iconst 0, 1) := by decide +kernel
theorem dX3_undoBeside_1 : decode cX3_undoBeside 1 = .ok (.istore_n 2, 1) := by decide +kernel
theorem dX3_undoBeside_2 : decode cX3_undoBeside 2 = .ok (.iload_n 1, 1) := by decide +kernel
theorem dX3_undoBeside_3 : decode cX3_undoBeside 3 = .ok (.iconst 1, 1) := by decide +kernel
theorem dX3_undoBeside_4 : decode cX3_undoBeside 4 = .ok (.isub, 1) := by decide +kernel
theorem dX3_undoBeside_5 : decode cX3_undoBeside 5 = .ok (.istore_n 3, 1) := by decide +kernel
theorem dX3_undoBeside_6 : decode cX3_undoBeside 6 = .ok (.iload_n 3, 1) := by decide +kernel
theorem dX3_undoBeside_7 : decode cX3_undoBeside 7 = .ok (.iload_n 1, 1) := by decide +kernel
theorem dX3_undoBeside_8 : decode cX3_undoBeside 8 = .ok (.if_icmp .gt 47, 3) := by decide +kernel
theorem dX3_undoBeside_11 : decode cX3_undoBeside 11 = .ok (.iload_n 3, 1) := by decide +kernel
theorem dX3_undoBeside_12 : decode cX3_undoBeside 12 = .ok (.ifCond .lt 37, 3) := by decide +kernel
theorem dX3_undoBeside_15 : decode cX3_undoBeside 15 = .ok (.iload_n 3, 1) := by decide +kernel
theorem dX3_undoBeside_16 : decode cX3_undoBeside 16 = .ok (.aload_n 0, 1) := by decide +kernel
theorem dX3_undoBeside_17 : decode cX3_undoBeside 17 = .ok (.invokevirtual 56, 3) := by decide +kernel
theorem dX3_undoBeside_20 : decode cX3_undoBeside 20 = .ok (.if_icmp .ge 29, 3) := by decide +kernel
theorem dX3_undoBeside_23 : decode cX3_undoBeside 23 = .ok (.aload_n 0, 1) := by decide +kernel
theorem dX3_undoBeside_24 : decode cX3_undoBeside 24 = .ok (.getfield 19, 3) := by decide +kernel
theorem dX3_undoBeside_27 : decode cX3_undoBeside 27 = .ok (.iload_n 3, 1) := by decide +kernel
theorem dX3_undoBeside_28 : decode cX3_undoBeside 28 = .ok (.aaload, 1) := by decide +kernel
theorem dX3_undoBeside_29 : decode cX3_undoBeside 29 = .ok (.getfield 60, 3) := by decide +kernel
theorem dX3_undoBeside_32 : decode cX3_undoBeside 32 = .ok (.bipush 110, 2) := by decide +kernel
theorem dX3_undoBeside_34 : decode cX3_undoBeside 34 = .ok (.if_icmp .eq 15, 3) := by decide +kernel
theorem dX3_undoBeside_37 : decode cX3_undoBeside 37 = .ok (.aload_n 0, 1) := by decide +kernel
theorem dX3_undoBeside_38 : decode cX3_undoBeside 38 = .ok (.getfield 19, 3) := by decide +kernel
theorem dX3_undoBeside_41 : decode cX3_undoBeside 41 = .ok (.iload_n 3, 1) := by decide +kernel
theorem dX3_undoBeside_42 : decode cX3_undoBeside 42 = .ok (.aaload, 1) := by decide +kernel
theorem dX3_undoBeside_43 : decode cX3_undoBeside 43 = .ok (.invokevirtual 63, 3) := by decide +kernel
theorem dX3_undoBeside_46 : decode cX3_undoBeside 46 = .ok (.iinc 2 1, 3) := by decide +kernel
theorem dX3_undoBeside_49 : decode cX3_undoBeside 49 = .ok (.iinc 3 1, 3) := by decide +kernel
theorem dX3_undoBeside_52 : decode cX3_undoBeside 52 = .ok (.goto (-46), 3) := by decide +kernel
theorem dX3_undoBeside_55 : decode cX3_undoBeside 55 = .ok (.iload_n 2, 1) := by decide +kernel
theorem dX3_undoBeside_56 : decode cX3_undoBeside 56 = .ok (.ireturn, 1) := by decide +kernel
theorem dX3_countNotNew_0 : decode cX3_countNotNew 0 = .ok (.iconst 0, 1) := by decide +kernel
theorem dX3_countNotNew_1 : decode cX3_countNotNew 1 = .ok (.istore_n 1, 1) := by decide +kernel
theorem dX3_countNotNew_2 : decode cX3_countNotNew 2 = .ok (.iconst 0, 1) := by decide +kernel
theorem dX3_countNotNew_3 : decode cX3_countNotNew 3 = .ok (.istore_n 2, 1) := by decide +kernel
theorem dX3_countNotNew_4 : decode cX3_countNotNew 4 = .ok (.iload_n 2, 1) := by decide +kernel
theorem dX3_countNotNew_5 : decode cX3_countNotNew 5 = .ok (.aload_n 0, 1) := by decide +kernel
theorem dX3_countNotNew_6 : decode cX3_countNotNew 6 = .ok (.invokevirtual 56, 3) := by decide +kernel
theorem dX3_countNotNew_9 : decode cX3_countNotNew 9 = .ok (.if_icmp .ge 31, 3) := by decide +kernel
theorem dX3_countNotNew_12 : decode cX3_countNotNew 12 = .ok (.iload_n 1, 1) := by decide +kernel
theorem dX3_countNotNew_13 : decode cX3_countNotNew 13 = .ok (.aload_n 0, 1) := by decide +kernel
theorem dX3_countNotNew_14 : decode cX3_countNotNew 14 = .ok (.getfield 19, 3) := by decide +kernel
theorem dX3_countNotNew_17 : decode cX3_countNotNew 17 = .ok (.iload_n 2, 1) := by decide +kernel
theorem dX3_countNotNew_18 : decode cX3_countNotNew 18 = .ok (.aaload, 1) := by decide +kernel
theorem dX3_countNotNew_19 : decode cX3_countNotNew 19 = .ok (.getfield 60, 3) := by decide +kernel
theorem dX3_countNotNew_22 : decode cX3_countNotNew 22 = .ok (.bipush 110, 2) := by decide +kernel
theorem dX3_countNotNew_24 : decode cX3_countNotNew 24 = .ok (.if_icmp .eq 7, 3) := by decide +kernel
theorem dX3_countNotNew_27 : decode cX3_countNotNew 27 = .ok (.iconst 1, 1) := by decide +kernel
theorem dX3_countNotNew_28 : decode cX3_countNotNew 28 = .ok (.goto 4, 3) := by decide +kernel
theorem dX3_countNotNew_31 : decode cX3_countNotNew 31 = .ok (.iconst 0, 1) := by decide +kernel
theorem dX3_countNotNew_32 : decode cX3_countNotNew 32 = .ok (.iadd, 1) := by decide +kernel
theorem dX3_countNotNew_33 : decode cX3_countNotNew 33 = .ok (.istore_n 1, 1) := by decide +kernel
theorem dX3_countNotNew_34 : decode cX3_countNotNew 34 = .ok (.iinc 2 1, 3) := by decide +kernel
theorem dX3_countNotNew_37 : decode cX3_countNotNew 37 = .ok (.goto (-33), 3) := by decide +kernel
theorem dX3_countNotNew_40 : decode cX3_countNotNew 40 = .ok (.iload_n 1, 1) := by decide +kernel
theorem dX3_countNotNew_41 : decode cX3_countNotNew 41 = .ok (.ireturn, 1) := by decide +kernel
theorem dX3_looksDue_0 : decode cX3_looksDue 0 = .ok (.aload_n 0, 1) := by decide +kernel
theorem dX3_looksDue_1 : decode cX3_looksDue 1 = .ok (.invokevirtual 56, 3) := by decide +kernel
theorem dX3_looksDue_4 : decode cX3_looksDue 4 = .ok (.istore_n 1, 1) := by decide +kernel
theorem dX3_looksDue_5 : decode cX3_looksDue 5 = .ok (.iload_n 1, 1) := by decide +kernel
theorem dX3_looksDue_6 : decode cX3_looksDue 6 = .ok (.aload_n 0, 1) := by decide +kernel
theorem dX3_looksDue_7 : decode cX3_looksDue 7 = .ok (.getfield 66, 3) := by decide +kernel
theorem dX3_looksDue_10 : decode cX3_looksDue 10 = .ok (.imul, 1) := by decide +kernel
theorem dX3_looksDue_11 : decode cX3_looksDue 11 = .ok (.bipush 99, 2) := by decide +kernel
theorem dX3_looksDue_13 : decode cX3_looksDue 13 = .ok (.iadd, 1) := by decide +kernel
theorem dX3_looksDue_14 : decode cX3_looksDue 14 = .ok (.bipush 100, 2) := by decide +kernel
theorem dX3_looksDue_16 : decode cX3_looksDue 16 = .ok (.idiv, 1) := by decide +kernel
theorem dX3_looksDue_17 : decode cX3_looksDue 17 = .ok (.iconst 2, 1) := by decide +kernel
theorem dX3_looksDue_18 : decode cX3_looksDue 18 = .ok (.aload_n 0, 1) := by decide +kernel
theorem dX3_looksDue_19 : decode cX3_looksDue 19 = .ok (.getfield 69, 3) := by decide +kernel
theorem dX3_looksDue_22 : decode cX3_looksDue 22 = .ok (.imul, 1) := by decide +kernel
theorem dX3_looksDue_23 : decode cX3_looksDue 23 = .ok (.iadd, 1) := by decide +kernel
theorem dX3_looksDue_24 : decode cX3_looksDue 24 = .ok (.istore_n 2, 1) := by decide +kernel
theorem dX3_looksDue_25 : decode cX3_looksDue 25 = .ok (.iconst 0, 1) := by decide +kernel
theorem dX3_looksDue_26 : decode cX3_looksDue 26 = .ok (.istore_n 3, 1) := by decide +kernel
theorem dX3_looksDue_27 : decode cX3_looksDue 27 = .ok (.iconst 0, 1) := by decide +kernel
theorem dX3_looksDue_28 : decode cX3_looksDue 28 = .ok (.istore 4, 2) := by decide +kernel
theorem dX3_looksDue_30 : decode cX3_looksDue 30 = .ok (.iload 4, 2) := by decide +kernel
theorem dX3_looksDue_32 : decode cX3_looksDue 32 = .ok (.iload_n 1, 1) := by decide +kernel
theorem dX3_looksDue_33 : decode cX3_looksDue 33 = .ok (.if_icmp .ge 30, 3) := by decide +kernel
theorem dX3_looksDue_36 : decode cX3_looksDue 36 = .ok (.iload_n 3, 1) := by decide +kernel
theorem dX3_looksDue_37 : decode cX3_looksDue 37 = .ok (.aload_n 0, 1) := by decide +kernel
theorem dX3_looksDue_38 : decode cX3_looksDue 38 = .ok (.getfield 19, 3) := by decide +kernel
theorem dX3_looksDue_41 : decode cX3_looksDue 41 = .ok (.iload 4, 2) := by decide +kernel
theorem dX3_looksDue_43 : decode cX3_looksDue 43 = .ok (.aaload, 1) := by decide +kernel
theorem dX3_looksDue_44 : decode cX3_looksDue 44 = .ok (.invokevirtual 72, 3) := by decide +kernel
theorem dX3_looksDue_47 : decode cX3_looksDue 47 = .ok (.ifCond .eq 7, 3) := by decide +kernel
theorem dX3_looksDue_50 : decode cX3_looksDue 50 = .ok (.iconst 1, 1) := by decide +kernel
theorem dX3_looksDue_51 : decode cX3_looksDue 51 = .ok (.goto 4, 3) := by decide +kernel
theorem dX3_looksDue_54 : decode cX3_looksDue 54 = .ok (.iconst 0, 1) := by decide +kernel
theorem dX3_looksDue_55 : decode cX3_looksDue 55 = .ok (.iadd, 1) := by decide +kernel
theorem dX3_looksDue_56 : decode cX3_looksDue 56 = .ok (.istore_n 3, 1) := by decide +kernel
theorem dX3_looksDue_57 : decode cX3_looksDue 57 = .ok (.iinc 4 1, 3) := by decide +kernel
theorem dX3_looksDue_60 : decode cX3_looksDue 60 = .ok (.goto (-30), 3) := by decide +kernel
theorem dX3_looksDue_63 : decode cX3_looksDue 63 = .ok (.iconst 0, 1) := by decide +kernel
theorem dX3_looksDue_64 : decode cX3_looksDue 64 = .ok (.iload_n 1, 1) := by decide +kernel
theorem dX3_looksDue_65 : decode cX3_looksDue 65 = .ok (.iload_n 2, 1) := by decide +kernel
theorem dX3_looksDue_66 : decode cX3_looksDue 66 = .ok (.invokestatic 76, 3) := by decide +kernel
theorem dX3_looksDue_69 : decode cX3_looksDue 69 = .ok (.iload_n 3, 1) := by decide +kernel
theorem dX3_looksDue_70 : decode cX3_looksDue 70 = .ok (.isub, 1) := by decide +kernel
theorem dX3_looksDue_71 : decode cX3_looksDue 71 = .ok (.invokestatic 82, 3) := by decide +kernel
theorem dX3_looksDue_74 : decode cX3_looksDue 74 = .ok (.ireturn, 1) := by decide +kernel
theorem dX3_canBeTested_0 : decode cX3_canBeTested 0 = .ok (.iconst 0, 1) := by decide +kernel
theorem dX3_canBeTested_1 : decode cX3_canBeTested 1 = .ok (.istore_n 1, 1) := by decide +kernel
theorem dX3_canBeTested_2 : decode cX3_canBeTested 2 = .ok (.iload_n 1, 1) := by decide +kernel
theorem dX3_canBeTested_3 : decode cX3_canBeTested 3 = .ok (.aload_n 0, 1) := by decide +kernel
theorem dX3_canBeTested_4 : decode cX3_canBeTested 4 = .ok (.invokevirtual 56, 3) := by decide +kernel
theorem dX3_canBeTested_7 : decode cX3_canBeTested 7 = .ok (.if_icmp .ge 39, 3) := by decide +kernel
theorem dX3_canBeTested_10 : decode cX3_canBeTested 10 = .ok (.aload_n 0, 1) := by decide +kernel
theorem dX3_canBeTested_11 : decode cX3_canBeTested 11 = .ok (.getfield 19, 3) := by decide +kernel
theorem dX3_canBeTested_14 : decode cX3_canBeTested 14 = .ok (.iload_n 1, 1) := by decide +kernel
theorem dX3_canBeTested_15 : decode cX3_canBeTested 15 = .ok (.aaload, 1) := by decide +kernel
theorem dX3_canBeTested_16 : decode cX3_canBeTested 16 = .ok (.getfield 60, 3) := by decide +kernel
theorem dX3_canBeTested_19 : decode cX3_canBeTested 19 = .ok (.bipush 110, 2) := by decide +kernel
theorem dX3_canBeTested_21 : decode cX3_canBeTested 21 = .ok (.if_icmp .eq 17, 3) := by decide +kernel
theorem dX3_canBeTested_24 : decode cX3_canBeTested 24 = .ok (.aload_n 0, 1) := by decide +kernel
theorem dX3_canBeTested_25 : decode cX3_canBeTested 25 = .ok (.getfield 19, 3) := by decide +kernel
theorem dX3_canBeTested_28 : decode cX3_canBeTested 28 = .ok (.iload_n 1, 1) := by decide +kernel
theorem dX3_canBeTested_29 : decode cX3_canBeTested 29 = .ok (.aaload, 1) := by decide +kernel
theorem dX3_canBeTested_30 : decode cX3_canBeTested 30 = .ok (.getfield 60, 3) := by decide +kernel
theorem dX3_canBeTested_33 : decode cX3_canBeTested 33 = .ok (.bipush 98, 2) := by decide +kernel
theorem dX3_canBeTested_35 : decode cX3_canBeTested 35 = .ok (.if_icmp .ne 5, 3) := by decide +kernel
theorem dX3_canBeTested_38 : decode cX3_canBeTested 38 = .ok (.iconst 0, 1) := by decide +kernel
theorem dX3_canBeTested_39 : decode cX3_canBeTested 39 = .ok (.ireturn, 1) := by decide +kernel
theorem dX3_canBeTested_40 : decode cX3_canBeTested 40 = .ok (.iinc 1 1, 3) := by decide +kernel
theorem dX3_canBeTested_43 : decode cX3_canBeTested 43 = .ok (.goto (-41), 3) := by decide +kernel
theorem dX3_canBeTested_46 : decode cX3_canBeTested 46 = .ok (.aload_n 0, 1) := by decide +kernel
theorem dX3_canBeTested_47 : decode cX3_canBeTested 47 = .ok (.invokevirtual 85, 3) := by decide +kernel
theorem dX3_canBeTested_50 : decode cX3_canBeTested 50 = .ok (.ifCond .ne 7, 3) := by decide +kernel
theorem dX3_canBeTested_53 : decode cX3_canBeTested 53 = .ok (.iconst 1, 1) := by decide +kernel
theorem dX3_canBeTested_54 : decode cX3_canBeTested 54 = .ok (.goto 4, 3) := by decide +kernel
theorem dX3_canBeTested_57 : decode cX3_canBeTested 57 = .ok (.iconst 0, 1) := by decide +kernel
theorem dX3_canBeTested_58 : decode cX3_canBeTested 58 = .ok (.ireturn, 1) := by decide +kernel
theorem dX3_firstLack_0 : decode cX3_firstLack 0 = .ok (.aload_n 0, 1) := by decide +kernel
theorem dX3_firstLack_1 : decode cX3_firstLack 1 = .ok (.getfield 11, 3) := by decide +kernel
theorem dX3_firstLack_4 : decode cX3_firstLack 4 = .ok (.iload_n 1, 1) := by decide +kernel
theorem dX3_firstLack_5 : decode cX3_firstLack 5 = .ok (.aaload, 1) := by decide +kernel
theorem dX3_firstLack_6 : decode cX3_firstLack 6 = .ok (.astore_n 2, 1) := by decide +kernel
theorem dX3_firstLack_7 : decode cX3_firstLack 7 = .ok (.aload_n 0, 1) := by decide +kernel
theorem dX3_firstLack_8 : decode cX3_firstLack 8 = .ok (.getfield 11, 3) := by decide +kernel
theorem dX3_firstLack_11 : decode cX3_firstLack 11 = .ok (.iload_n 1, 1) := by decide +kernel
theorem dX3_firstLack_12 : decode cX3_firstLack 12 = .ok (.iconst 1, 1) := by decide +kernel
theorem dX3_firstLack_13 : decode cX3_firstLack 13 = .ok (.iadd, 1) := by decide +kernel
theorem dX3_firstLack_14 : decode cX3_firstLack 14 = .ok (.aaload, 1) := by decide +kernel
theorem dX3_firstLack_15 : decode cX3_firstLack 15 = .ok (.astore_n 3, 1) := by decide +kernel
theorem dX3_firstLack_16 : decode cX3_firstLack 16 = .ok (.aload_n 0, 1) := by decide +kernel
theorem dX3_firstLack_17 : decode cX3_firstLack 17 = .ok (.getfield 19, 3) := by decide +kernel
theorem dX3_firstLack_20 : decode cX3_firstLack 20 = .ok (.iload_n 1, 1) := by decide +kernel
theorem dX3_firstLack_21 : decode cX3_firstLack 21 = .ok (.aaload, 1) := by decide +kernel
theorem dX3_firstLack_22 : decode cX3_firstLack 22 = .ok (.getfield 60, 3) := by decide +kernel
theorem dX3_firstLack_25 : decode cX3_firstLack 25 = .ok (.istore 4, 2) := by decide +kernel
theorem dX3_firstLack_27 : decode cX3_firstLack 27 = .ok (.aload_n 2, 1) := by decide +kernel
theorem dX3_firstLack_28 : decode cX3_firstLack 28 = .ok (.getfield 88, 3) := by decide +kernel
theorem dX3_firstLack_31 : decode cX3_firstLack 31 = .ok (.ifnull 10, 3) := by decide +kernel
theorem dX3_firstLack_34 : decode cX3_firstLack 34 = .ok (.aload_n 3, 1) := by decide +kernel
theorem dX3_firstLack_35 : decode cX3_firstLack 35 = .ok (.getfield 88, 3) := by decide +kernel
theorem dX3_firstLack_38 : decode cX3_firstLack 38 = .ok (.ifnonnull 6, 3) := by decide +kernel
theorem dX3_firstLack_41 : decode cX3_firstLack 41 = .ok (.bipush 115, 2) := by decide +kernel
theorem dX3_firstLack_43 : decode cX3_firstLack 43 = .ok (.ireturn, 1) := by decide +kernel
theorem dX3_firstLack_44 : decode cX3_firstLack 44 = .ok (.aload_n 2, 1) := by decide +kernel
theorem dX3_firstLack_45 : decode cX3_firstLack 45 = .ok (.invokevirtual 92, 3) := by decide +kernel
theorem dX3_firstLack_48 : decode cX3_firstLack 48 = .ok (.ifCond .eq 10, 3) := by decide +kernel
theorem dX3_firstLack_51 : decode cX3_firstLack 51 = .ok (.aload_n 3, 1) := by decide +kernel
theorem dX3_firstLack_52 : decode cX3_firstLack 52 = .ok (.invokevirtual 92, 3) := by decide +kernel
theorem dX3_firstLack_55 : decode cX3_firstLack 55 = .ok (.ifCond .ne 6, 3) := by decide +kernel
theorem dX3_firstLack_58 : decode cX3_firstLack 58 = .ok (.bipush 112, 2) := by decide +kernel
theorem dX3_firstLack_60 : decode cX3_firstLack 60 = .ok (.ireturn, 1) := by decide +kernel
theorem dX3_firstLack_61 : decode cX3_firstLack 61 = .ok (.iload 4, 2) := by decide +kernel
theorem dX3_firstLack_63 : decode cX3_firstLack 63 = .ok (.bipush 110, 2) := by decide +kernel
theorem dX3_firstLack_65 : decode cX3_firstLack 65 = .ok (.if_icmp .eq 10, 3) := by decide +kernel
theorem dX3_firstLack_68 : decode cX3_firstLack 68 = .ok (.iload 4, 2) := by decide +kernel
theorem dX3_firstLack_70 : decode cX3_firstLack 70 = .ok (.bipush 98, 2) := by decide +kernel
theorem dX3_firstLack_72 : decode cX3_firstLack 72 = .ok (.if_icmp .ne 18, 3) := by decide +kernel
theorem dX3_firstLack_75 : decode cX3_firstLack 75 = .ok (.iload 4, 2) := by decide +kernel
theorem dX3_firstLack_77 : decode cX3_firstLack 77 = .ok (.bipush 110, 2) := by decide +kernel
theorem dX3_firstLack_79 : decode cX3_firstLack 79 = .ok (.if_icmp .ne 8, 3) := by decide +kernel
theorem dX3_firstLack_82 : decode cX3_firstLack 82 = .ok (.bipush 119, 2) := by decide +kernel
theorem dX3_firstLack_84 : decode cX3_firstLack 84 = .ok (.goto 5, 3) := by decide +kernel
theorem dX3_firstLack_87 : decode cX3_firstLack 87 = .ok (.bipush 98, 2) := by decide +kernel
theorem dX3_firstLack_89 : decode cX3_firstLack 89 = .ok (.ireturn, 1) := by decide +kernel
theorem dX3_firstLack_90 : decode cX3_firstLack 90 = .ok (.aload_n 0, 1) := by decide +kernel
theorem dX3_firstLack_91 : decode cX3_firstLack 91 = .ok (.invokevirtual 85, 3) := by decide +kernel
theorem dX3_firstLack_94 : decode cX3_firstLack 94 = .ok (.ifCond .le 6, 3) := by decide +kernel
theorem dX3_firstLack_97 : decode cX3_firstLack 97 = .ok (.bipush 108, 2) := by decide +kernel
theorem dX3_firstLack_99 : decode cX3_firstLack 99 = .ok (.ireturn, 1) := by decide +kernel
theorem dX3_firstLack_100 : decode cX3_firstLack 100 = .ok (.aload_n 0, 1) := by decide +kernel
theorem dX3_firstLack_101 : decode cX3_firstLack 101 = .ok (.getfield 48, 3) := by decide +kernel
theorem dX3_firstLack_104 : decode cX3_firstLack 104 = .ok (.ifCond .ne 6, 3) := by decide +kernel
theorem dX3_firstLack_107 : decode cX3_firstLack 107 = .ok (.bipush 116, 2) := by decide +kernel
theorem dX3_firstLack_109 : decode cX3_firstLack 109 = .ok (.ireturn, 1) := by decide +kernel
theorem dX3_firstLack_110 : decode cX3_firstLack 110 = .ok (.aload_n 0, 1) := by decide +kernel
theorem dX3_firstLack_111 : decode cX3_firstLack 111 = .ok (.getfield 30, 3) := by decide +kernel
theorem dX3_firstLack_114 : decode cX3_firstLack 114 = .ok (.getfield 95, 3) := by decide +kernel
theorem dX3_firstLack_117 : decode cX3_firstLack 117 = .ok (.ifCond .ne 13, 3) := by decide +kernel
theorem dX3_firstLack_120 : decode cX3_firstLack 120 = .ok (.aload_n 0, 1) := by decide +kernel
theorem dX3_firstLack_121 : decode cX3_firstLack 121 = .ok (.getfield 34, 3) := by decide +kernel
theorem dX3_firstLack_124 : decode cX3_firstLack 124 = .ok (.getfield 95, 3) := by decide +kernel
theorem dX3_firstLack_127 : decode cX3_firstLack 127 = .ok (.ifCond .eq 8, 3) := by decide +kernel
theorem dX3_firstLack_130 : decode cX3_firstLack 130 = .ok (.bipush 105, 2) := by decide +kernel
theorem dX3_firstLack_132 : decode cX3_firstLack 132 = .ok (.goto 5, 3) := by decide +kernel
theorem dX3_firstLack_135 : decode cX3_firstLack 135 = .ok (.bipush 45, 2) := by decide +kernel
theorem dX3_firstLack_137 : decode cX3_firstLack 137 = .ok (.ireturn, 1) := by decide +kernel
theorem dX3_isComplete_0 : decode cX3_isComplete 0 = .ok (.iconst 0, 1) := by decide +kernel
theorem dX3_isComplete_1 : decode cX3_isComplete 1 = .ok (.istore_n 1, 1) := by decide +kernel
theorem dX3_isComplete_2 : decode cX3_isComplete 2 = .ok (.iload_n 1, 1) := by decide +kernel
theorem dX3_isComplete_3 : decode cX3_isComplete 3 = .ok (.aload_n 0, 1) := by decide +kernel
theorem dX3_isComplete_4 : decode cX3_isComplete 4 = .ok (.invokevirtual 56, 3) := by decide +kernel
theorem dX3_isComplete_7 : decode cX3_isComplete 7 = .ok (.if_icmp .ge 21, 3) := by decide +kernel
theorem dX3_isComplete_10 : decode cX3_isComplete 10 = .ok (.aload_n 0, 1) := by decide +kernel
theorem dX3_isComplete_11 : decode cX3_isComplete 11 = .ok (.iload_n 1, 1) := by decide +kernel
theorem dX3_isComplete_12 : decode cX3_isComplete 12 = .ok (.invokevirtual 98, 3) := by decide +kernel
theorem dX3_isComplete_15 : decode cX3_isComplete 15 = .ok (.bipush 45, 2) := by decide +kernel
theorem dX3_isComplete_17 : decode cX3_isComplete 17 = .ok (.if_icmp .eq 5, 3) := by decide +kernel
theorem dX3_isComplete_20 : decode cX3_isComplete 20 = .ok (.iconst 0, 1) := by decide +kernel
theorem dX3_isComplete_21 : decode cX3_isComplete 21 = .ok (.ireturn, 1) := by decide +kernel
theorem dX3_isComplete_22 : decode cX3_isComplete 22 = .ok (.iinc 1 1, 3) := by decide +kernel
theorem dX3_isComplete_25 : decode cX3_isComplete 25 = .ok (.goto (-23), 3) := by decide +kernel
theorem dX3_isComplete_28 : decode cX3_isComplete 28 = .ok (.aload_n 0, 1) := by decide +kernel
theorem dX3_isComplete_29 : decode cX3_isComplete 29 = .ok (.invokevirtual 56, 3) := by decide +kernel
theorem dX3_isComplete_32 : decode cX3_isComplete 32 = .ok (.ifCond .le 7, 3) := by decide +kernel
theorem dX3_isComplete_35 : decode cX3_isComplete 35 = .ok (.iconst 1, 1) := by decide +kernel
theorem dX3_isComplete_36 : decode cX3_isComplete 36 = .ok (.goto 4, 3) := by decide +kernel
theorem dX3_isComplete_39 : decode cX3_isComplete 39 = .ok (.iconst 0, 1) := by decide +kernel
theorem dX3_isComplete_40 : decode cX3_isComplete 40 = .ok (.ireturn, 1) := by decide +kernel
theorem dX3_areJointsSound_0 : decode cX3_areJointsSound 0 = .ok (.iconst 0, 1) := by decide +kernel
theorem dX3_areJointsSound_1 : decode cX3_areJointsSound 1 = .ok (.istore_n 1, 1) := by decide +kernel
theorem dX3_areJointsSound_2 : decode cX3_areJointsSound 2 = .ok (.iload_n 1, 1) := by decide +kernel
theorem dX3_areJointsSound_3 : decode cX3_areJointsSound 3 = .ok (.aload_n 0, 1) := by decide +kernel
theorem dX3_areJointsSound_4 : decode cX3_areJointsSound 4 = .ok (.invokevirtual 56, 3) := by decide +kernel
theorem dX3_areJointsSound_7 : decode cX3_areJointsSound 7 = .ok (.if_icmp .ge 90, 3) := by decide +kernel
theorem dX3_areJointsSound_10 : decode cX3_areJointsSound 10 = .ok (.aload_n 0, 1) := by decide +kernel
theorem dX3_areJointsSound_11 : decode cX3_areJointsSound 11 = .ok (.getfield 11, 3) := by decide +kernel
theorem dX3_areJointsSound_14 : decode cX3_areJointsSound 14 = .ok (.iload_n 1, 1) := by decide +kernel
theorem dX3_areJointsSound_15 : decode cX3_areJointsSound 15 = .ok (.aaload, 1) := by decide +kernel
theorem dX3_areJointsSound_16 : decode cX3_areJointsSound 16 = .ok (.getfield 88, 3) := by decide +kernel
theorem dX3_areJointsSound_19 : decode cX3_areJointsSound 19 = .ok (.astore_n 2, 1) := by decide +kernel
theorem dX3_areJointsSound_20 : decode cX3_areJointsSound 20 = .ok (.aload_n 0, 1) := by decide +kernel
theorem dX3_areJointsSound_21 : decode cX3_areJointsSound 21 = .ok (.getfield 11, 3) := by decide +kernel
theorem dX3_areJointsSound_24 : decode cX3_areJointsSound 24 = .ok (.iload_n 1, 1) := by decide +kernel
theorem dX3_areJointsSound_25 : decode cX3_areJointsSound 25 = .ok (.iconst 1, 1) := by decide +kernel
theorem dX3_areJointsSound_26 : decode cX3_areJointsSound 26 = .ok (.iadd, 1) := by decide +kernel
theorem dX3_areJointsSound_27 : decode cX3_areJointsSound 27 = .ok (.aaload, 1) := by decide +kernel
theorem dX3_areJointsSound_28 : decode cX3_areJointsSound 28 = .ok (.getfield 88, 3) := by decide +kernel
theorem dX3_areJointsSound_31 : decode cX3_areJointsSound 31 = .ok (.astore_n 3, 1) := by decide +kernel
theorem dX3_areJointsSound_32 : decode cX3_areJointsSound 32 = .ok (.aload_n 2, 1) := by decide +kernel
theorem dX3_areJointsSound_33 : decode cX3_areJointsSound 33 = .ok (.ifnull 22, 3) := by decide +kernel
theorem dX3_areJointsSound_36 : decode cX3_areJointsSound 36 = .ok (.aload_n 3, 1) := by decide +kernel
theorem dX3_areJointsSound_37 : decode cX3_areJointsSound 37 = .ok (.ifnull 18, 3) := by decide +kernel
theorem dX3_areJointsSound_40 : decode cX3_areJointsSound 40 = .ok (.aload_n 2, 1) := by decide +kernel
theorem dX3_areJointsSound_41 : decode cX3_areJointsSound 41 = .ok (.getfield 102, 3) := by decide +kernel
theorem dX3_areJointsSound_44 : decode cX3_areJointsSound 44 = .ok (.aload_n 3, 1) := by decide +kernel
theorem dX3_areJointsSound_45 : decode cX3_areJointsSound 45 = .ok (.getfield 102, 3) := by decide +kernel
theorem dX3_areJointsSound_48 : decode cX3_areJointsSound 48 = .ok (.if_icmp .ne 7, 3) := by decide +kernel
theorem dX3_areJointsSound_51 : decode cX3_areJointsSound 51 = .ok (.iconst 1, 1) := by decide +kernel
theorem dX3_areJointsSound_52 : decode cX3_areJointsSound 52 = .ok (.goto 4, 3) := by decide +kernel
theorem dX3_areJointsSound_55 : decode cX3_areJointsSound 55 = .ok (.iconst 0, 1) := by decide +kernel
theorem dX3_areJointsSound_56 : decode cX3_areJointsSound 56 = .ok (.istore 4, 2) := by decide +kernel
theorem dX3_areJointsSound_58 : decode cX3_areJointsSound 58 = .ok (.aload_n 0, 1) := by decide +kernel
theorem dX3_areJointsSound_59 : decode cX3_areJointsSound 59 = .ok (.getfield 19, 3) := by decide +kernel
theorem dX3_areJointsSound_62 : decode cX3_areJointsSound 62 = .ok (.iload_n 1, 1) := by decide +kernel
theorem dX3_areJointsSound_63 : decode cX3_areJointsSound 63 = .ok (.aaload, 1) := by decide +kernel
theorem dX3_areJointsSound_64 : decode cX3_areJointsSound 64 = .ok (.getfield 60, 3) := by decide +kernel
theorem dX3_areJointsSound_67 : decode cX3_areJointsSound 67 = .ok (.bipush 110, 2) := by decide +kernel
theorem dX3_areJointsSound_69 : decode cX3_areJointsSound 69 = .ok (.if_icmp .eq 22, 3) := by decide +kernel
theorem dX3_areJointsSound_72 : decode cX3_areJointsSound 72 = .ok (.aload_n 0, 1) := by decide +kernel
theorem dX3_areJointsSound_73 : decode cX3_areJointsSound 73 = .ok (.getfield 19, 3) := by decide +kernel
theorem dX3_areJointsSound_76 : decode cX3_areJointsSound 76 = .ok (.iload_n 1, 1) := by decide +kernel
theorem dX3_areJointsSound_77 : decode cX3_areJointsSound 77 = .ok (.aaload, 1) := by decide +kernel
theorem dX3_areJointsSound_78 : decode cX3_areJointsSound 78 = .ok (.getfield 107, 3) := by decide +kernel
theorem dX3_areJointsSound_81 : decode cX3_areJointsSound 81 = .ok (.ifnull 8, 3) := by decide +kernel
theorem dX3_areJointsSound_84 : decode cX3_areJointsSound 84 = .ok (.iload 4, 2) := by decide +kernel
theorem dX3_areJointsSound_86 : decode cX3_areJointsSound 86 = .ok (.ifCond .ne 5, 3) := by decide +kernel
theorem dX3_areJointsSound_89 : decode cX3_areJointsSound 89 = .ok (.iconst 0, 1) := by decide +kernel
theorem dX3_areJointsSound_90 : decode cX3_areJointsSound 90 = .ok (.ireturn, 1) := by decide +kernel
theorem dX3_areJointsSound_91 : decode cX3_areJointsSound 91 = .ok (.iinc 1 1, 3) := by decide +kernel
theorem dX3_areJointsSound_94 : decode cX3_areJointsSound 94 = .ok (.goto (-92), 3) := by decide +kernel
theorem dX3_areJointsSound_97 : decode cX3_areJointsSound 97 = .ok (.iconst 1, 1) := by decide +kernel
theorem dX3_areJointsSound_98 : decode cX3_areJointsSound 98 = .ok (.ireturn, 1) := by decide +kernel
theorem dX4_init_0 : decode cX4_init 0 = .ok (.aload_n 0, 1) := by decide +kernel
theorem dX4_init_1 : decode cX4_init 1 = .ok (.invokespecial 1, 3) := by decide +kernel
theorem dX4_init_4 : decode cX4_init 4 = .ok (.return_, 1) := by decide +kernel
theorem dX4_returnSteel_0 : decode cX4_returnSteel 0 = .ok (.aload_n 0, 1) := by decide +kernel
theorem dX4_returnSteel_1 : decode cX4_returnSteel 1 = .ok (.getfield 7, 3) := by decide +kernel
theorem dX4_returnSteel_4 : decode cX4_returnSteel 4 = .ok (.ifnull 24, 3) := by decide +kernel
theorem dX4_returnSteel_7 : decode cX4_returnSteel 7 = .ok (.aload_n 0, 1) := by decide +kernel
theorem dX4_returnSteel_8 : decode cX4_returnSteel 8 = .ok (.getfield 7, 3) := by decide +kernel
theorem dX4_returnSteel_11 : decode cX4_returnSteel 11 = .ok (.dup, 1) := by decide +kernel
theorem dX4_returnSteel_12 : decode cX4_returnSteel 12 = .ok (.getfield 13, 3) := by decide +kernel
theorem dX4_returnSteel_15 : decode cX4_returnSteel 15 = .ok (.aload_n 0, 1) := by decide +kernel
theorem dX4_returnSteel_16 : decode cX4_returnSteel 16 = .ok (.getfield 19, 3) := by decide +kernel
theorem dX4_returnSteel_19 : decode cX4_returnSteel 19 = .ok (.iadd, 1) := by decide +kernel
theorem dX4_returnSteel_20 : decode cX4_returnSteel 20 = .ok (.putfield 13, 3) := by decide +kernel
theorem dX4_returnSteel_23 : decode cX4_returnSteel 23 = .ok (.aload_n 0, 1) := by decide +kernel
theorem dX4_returnSteel_24 : decode cX4_returnSteel 24 = .ok (.aconst_null, 1) := by decide +kernel
theorem dX4_returnSteel_25 : decode cX4_returnSteel 25 = .ok (.putfield 7, 3) := by decide +kernel
theorem dX4_returnSteel_28 : decode cX4_returnSteel 28 = .ok (.return_, 1) := by decide +kernel
theorem dX4_takeSteel_0 : decode cX4_takeSteel 0 = .ok (.aload_n 1, 1) := by decide +kernel
theorem dX4_takeSteel_1 : decode cX4_takeSteel 1 = .ok (.dup, 1) := by decide +kernel
theorem dX4_takeSteel_2 : decode cX4_takeSteel 2 = .ok (.getfield 13, 3) := by decide +kernel
theorem dX4_takeSteel_5 : decode cX4_takeSteel 5 = .ok (.aload_n 0, 1) := by decide +kernel
theorem dX4_takeSteel_6 : decode cX4_takeSteel 6 = .ok (.getfield 19, 3) := by decide +kernel
theorem dX4_takeSteel_9 : decode cX4_takeSteel 9 = .ok (.isub, 1) := by decide +kernel
theorem dX4_takeSteel_10 : decode cX4_takeSteel 10 = .ok (.putfield 13, 3) := by decide +kernel
theorem dX4_takeSteel_13 : decode cX4_takeSteel 13 = .ok (.aload_n 0, 1) := by decide +kernel
theorem dX4_takeSteel_14 : decode cX4_takeSteel 14 = .ok (.aload_n 1, 1) := by decide +kernel
theorem dX4_takeSteel_15 : decode cX4_takeSteel 15 = .ok (.putfield 7, 3) := by decide +kernel
theorem dX4_takeSteel_18 : decode cX4_takeSteel 18 = .ok (.return_, 1) := by decide +kernel
theorem dX4_hasPaper_0 : decode cX4_hasPaper 0 = .ok (.aload_n 0, 1) := by decide +kernel
theorem dX4_hasPaper_1 : decode cX4_hasPaper 1 = .ok (.getfield 7, 3) := by decide +kernel
theorem dX4_hasPaper_4 : decode cX4_hasPaper 4 = .ok (.ifnull 17, 3) := by decide +kernel
theorem dX4_hasPaper_7 : decode cX4_hasPaper 7 = .ok (.aload_n 0, 1) := by decide +kernel
theorem dX4_hasPaper_8 : decode cX4_hasPaper 8 = .ok (.getfield 7, 3) := by decide +kernel
theorem dX4_hasPaper_11 : decode cX4_hasPaper 11 = .ok (.getfield 22, 3) := by decide +kernel
theorem dX4_hasPaper_14 : decode cX4_hasPaper 14 = .ok (.ifCond .eq 7, 3) := by decide +kernel
theorem dX4_hasPaper_17 : decode cX4_hasPaper 17 = .ok (.iconst 1, 1) := by decide +kernel
theorem dX4_hasPaper_18 : decode cX4_hasPaper 18 = .ok (.goto 4, 3) := by decide +kernel
theorem dX4_hasPaper_21 : decode cX4_hasPaper 21 = .ok (.iconst 0, 1) := by decide +kernel
theorem dX4_hasPaper_22 : decode cX4_hasPaper 22 = .ok (.ireturn, 1) := by decide +kernel
theorem dX5_init_0 : decode cX5_init 0 = .ok (.aload_n 0, 1) := by decide +kernel
theorem dX5_init_1 : decode cX5_init 1 = .ok (.invokespecial 3, 3) := by decide +kernel
theorem dX5_init_4 : decode cX5_init 4 = .ok (.aload_n 0, 1) := by decide +kernel
theorem dX5_init_5 : decode cX5_init 5 = .ok (.iconst 4, 1) := by decide +kernel
theorem dX5_init_6 : decode cX5_init 6 = .ok (.newarray .int, 2) := by decide +kernel
theorem dX5_init_8 : decode cX5_init 8 = .ok (.putfield 9, 3) := by decide +kernel
theorem dX5_init_11 : decode cX5_init 11 = .ok (.aload_n 0, 1) := by decide +kernel
theorem dX5_init_12 : decode cX5_init 12 = .ok (.iload_n 1, 1) := by decide +kernel
theorem dX5_init_13 : decode cX5_init 13 = .ok (.putfield 15, 3) := by decide +kernel
theorem dX5_init_16 : decode cX5_init 16 = .ok (.iconst 0, 1) := by decide +kernel
theorem dX5_init_17 : decode cX5_init 17 = .ok (.istore_n 2, 1) := by decide +kernel
theorem dX5_init_18 : decode cX5_init 18 = .ok (.iload_n 2, 1) := by decide +kernel
theorem dX5_init_19 : decode cX5_init 19 = .ok (.iconst 4, 1) := by decide +kernel
theorem dX5_init_20 : decode cX5_init 20 = .ok (.if_icmp .ge 16, 3) := by decide +kernel
theorem dX5_init_23 : decode cX5_init 23 = .ok (.aload_n 0, 1) := by decide +kernel
theorem dX5_init_24 : decode cX5_init 24 = .ok (.getfield 9, 3) := by decide +kernel
theorem dX5_init_27 : decode cX5_init 27 = .ok (.iload_n 2, 1) := by decide +kernel
theorem dX5_init_28 : decode cX5_init 28 = .ok (.iconst (-1), 1) := by decide +kernel
theorem dX5_init_29 : decode cX5_init 29 = .ok (.iastore, 1) := by decide +kernel
theorem dX5_init_30 : decode cX5_init 30 = .ok (.iinc 2 1, 3) := by decide +kernel
theorem dX5_init_33 : decode cX5_init 33 = .ok (.goto (-15), 3) := by decide +kernel
theorem dX5_init_36 : decode cX5_init 36 = .ok (.return_, 1) := by decide +kernel
theorem dX6_init_0 : decode cX6_init 0 = .ok (.aload_n 0, 1) := by decide +kernel
theorem dX6_init_1 : decode cX6_init 1 = .ok (.invokespecial 1, 3) := by decide +kernel
theorem dX6_init_4 : decode cX6_init 4 = .ok (.aload_n 0, 1) := by decide +kernel
theorem dX6_init_5 : decode cX6_init 5 = .ok (.iconst 4, 1) := by decide +kernel
theorem dX6_init_6 : decode cX6_init 6 = .ok (.anewarray 9, 3) := by decide +kernel
theorem dX6_init_9 : decode cX6_init 9 = .ok (.putfield 11, 3) := by decide +kernel
theorem dX6_init_12 : decode cX6_init 12 = .ok (.aload_n 0, 1) := by decide +kernel
theorem dX6_init_13 : decode cX6_init 13 = .ok (.bipush 8, 2) := by decide +kernel
theorem dX6_init_15 : decode cX6_init 15 = .ok (.anewarray 15, 3) := by decide +kernel
theorem dX6_init_18 : decode cX6_init 18 = .ok (.putfield 17, 3) := by decide +kernel
theorem dX6_init_21 : decode cX6_init 21 = .ok (.aload_n 0, 1) := by decide +kernel
theorem dX6_init_22 : decode cX6_init 22 = .ok (.iconst 5, 1) := by decide +kernel
theorem dX6_init_23 : decode cX6_init 23 = .ok (.anewarray 21, 3) := by decide +kernel
theorem dX6_init_26 : decode cX6_init 26 = .ok (.putfield 23, 3) := by decide +kernel
theorem dX6_init_29 : decode cX6_init 29 = .ok (.aload_n 0, 1) := by decide +kernel
theorem dX6_init_30 : decode cX6_init 30 = .ok (.bipush 6, 2) := by decide +kernel
theorem dX6_init_32 : decode cX6_init 32 = .ok (.newarray .int, 2) := by decide +kernel
theorem dX6_init_34 : decode cX6_init 34 = .ok (.putfield 27, 3) := by decide +kernel
theorem dX6_init_37 : decode cX6_init 37 = .ok (.iconst 0, 1) := by decide +kernel
theorem dX6_init_38 : decode cX6_init 38 = .ok (.istore_n 1, 1) := by decide +kernel
theorem dX6_init_39 : decode cX6_init 39 = .ok (.iload_n 1, 1) := by decide +kernel
theorem dX6_init_40 : decode cX6_init 40 = .ok (.iconst 4, 1) := by decide +kernel
theorem dX6_init_41 : decode cX6_init 41 = .ok (.if_icmp .ge 23, 3) := by decide +kernel
theorem dX6_init_44 : decode cX6_init 44 = .ok (.aload_n 0, 1) := by decide +kernel
theorem dX6_init_45 : decode cX6_init 45 = .ok (.getfield 11, 3) := by decide +kernel
theorem dX6_init_48 : decode cX6_init 48 = .ok (.iload_n 1, 1) := by decide +kernel
theorem dX6_init_49 : decode cX6_init 49 = .ok (.new 9, 3) := by decide +kernel
theorem dX6_init_52 : decode cX6_init 52 = .ok (.dup, 1) := by decide +kernel
theorem dX6_init_53 : decode cX6_init 53 = .ok (.iload_n 1, 1) := by decide +kernel
theorem dX6_init_54 : decode cX6_init 54 = .ok (.invokespecial 31, 3) := by decide +kernel
theorem dX6_init_57 : decode cX6_init 57 = .ok (.aastore, 1) := by decide +kernel
theorem dX6_init_58 : decode cX6_init 58 = .ok (.iinc 1 1, 3) := by decide +kernel
theorem dX6_init_61 : decode cX6_init 61 = .ok (.goto (-22), 3) := by decide +kernel
theorem dX6_init_64 : decode cX6_init 64 = .ok (.iconst 0, 1) := by decide +kernel
theorem dX6_init_65 : decode cX6_init 65 = .ok (.istore_n 1, 1) := by decide +kernel
theorem dX6_init_66 : decode cX6_init 66 = .ok (.iload_n 1, 1) := by decide +kernel
theorem dX6_init_67 : decode cX6_init 67 = .ok (.bipush 8, 2) := by decide +kernel
theorem dX6_init_69 : decode cX6_init 69 = .ok (.if_icmp .ge 23, 3) := by decide +kernel
theorem dX6_init_72 : decode cX6_init 72 = .ok (.aload_n 0, 1) := by decide +kernel
theorem dX6_init_73 : decode cX6_init 73 = .ok (.getfield 17, 3) := by decide +kernel
theorem dX6_init_76 : decode cX6_init 76 = .ok (.iload_n 1, 1) := by decide +kernel
theorem dX6_init_77 : decode cX6_init 77 = .ok (.new 15, 3) := by decide +kernel
theorem dX6_init_80 : decode cX6_init 80 = .ok (.dup, 1) := by decide +kernel
theorem dX6_init_81 : decode cX6_init 81 = .ok (.iload_n 1, 1) := by decide +kernel
theorem dX6_init_82 : decode cX6_init 82 = .ok (.invokespecial 34, 3) := by decide +kernel
theorem dX6_init_85 : decode cX6_init 85 = .ok (.aastore, 1) := by decide +kernel
theorem dX6_init_86 : decode cX6_init 86 = .ok (.iinc 1 1, 3) := by decide +kernel
theorem dX6_init_89 : decode cX6_init 89 = .ok (.goto (-23), 3) := by decide +kernel
theorem dX6_init_92 : decode cX6_init 92 = .ok (.iconst 0, 1) := by decide +kernel
theorem dX6_init_93 : decode cX6_init 93 = .ok (.istore_n 1, 1) := by decide +kernel
theorem dX6_init_94 : decode cX6_init 94 = .ok (.iload_n 1, 1) := by decide +kernel
theorem dX6_init_95 : decode cX6_init 95 = .ok (.iconst 5, 1) := by decide +kernel
theorem dX6_init_96 : decode cX6_init 96 = .ok (.if_icmp .ge 23, 3) := by decide +kernel
theorem dX6_init_99 : decode cX6_init 99 = .ok (.aload_n 0, 1) := by decide +kernel
theorem dX6_init_100 : decode cX6_init 100 = .ok (.getfield 23, 3) := by decide +kernel
theorem dX6_init_103 : decode cX6_init 103 = .ok (.iload_n 1, 1) := by decide +kernel
theorem dX6_init_104 : decode cX6_init 104 = .ok (.new 21, 3) := by decide +kernel
theorem dX6_init_107 : decode cX6_init 107 = .ok (.dup, 1) := by decide +kernel
theorem dX6_init_108 : decode cX6_init 108 = .ok (.iload_n 1, 1) := by decide +kernel
theorem dX6_init_109 : decode cX6_init 109 = .ok (.invokespecial 35, 3) := by decide +kernel
theorem dX6_init_112 : decode cX6_init 112 = .ok (.aastore, 1) := by decide +kernel
theorem dX6_init_113 : decode cX6_init 113 = .ok (.iinc 1 1, 3) := by decide +kernel
theorem dX6_init_116 : decode cX6_init 116 = .ok (.goto (-22), 3) := by decide +kernel
theorem dX6_init_119 : decode cX6_init 119 = .ok (.return_, 1) := by decide +kernel
theorem dX6_addLine_0 : decode cX6_addLine 0 = .ok (.iload_n 1, 1) := by decide +kernel
theorem dX6_addLine_1 : decode cX6_addLine 1 = .ok (.iconst 1, 1) := by decide +kernel
theorem dX6_addLine_2 : decode cX6_addLine 2 = .ok (.if_icmp .lt 8, 3) := by decide +kernel
theorem dX6_addLine_5 : decode cX6_addLine 5 = .ok (.iload_n 1, 1) := by decide +kernel
theorem dX6_addLine_6 : decode cX6_addLine 6 = .ok (.iconst 3, 1) := by decide +kernel
theorem dX6_addLine_7 : decode cX6_addLine 7 = .ok (.if_icmp .le 13, 3) := by decide +kernel
theorem dX6_addLine_10 : decode cX6_addLine 10 = .ok (.new 36, 3) := by decide +kernel
theorem dX6_addLine_13 : decode cX6_addLine 13 = .ok (.dup, 1) := by decide +kernel
theorem dX6_addLine_14 : decode cX6_addLine 14 = .ok (.ldc 38, 2) := by decide +kernel
theorem dX6_addLine_16 : decode cX6_addLine 16 = .ok (.invokespecial 40, 3) := by decide +kernel
theorem dX6_addLine_19 : decode cX6_addLine 19 = .ok (.athrow, 1) := by decide +kernel
theorem dX6_addLine_20 : decode cX6_addLine 20 = .ok (.aload_n 0, 1) := by decide +kernel
theorem dX6_addLine_21 : decode cX6_addLine 21 = .ok (.getfield 43, 3) := by decide +kernel
theorem dX6_addLine_24 : decode cX6_addLine 24 = .ok (.iconst 4, 1) := by decide +kernel
theorem dX6_addLine_25 : decode cX6_addLine 25 = .ok (.if_icmp .lt 13, 3) := by decide +kernel
theorem dX6_addLine_28 : decode cX6_addLine 28 = .ok (.new 47, 3) := by decide +kernel
theorem dX6_addLine_31 : decode cX6_addLine 31 = .ok (.dup, 1) := by decide +kernel
theorem dX6_addLine_32 : decode cX6_addLine 32 = .ok (.ldc 49, 2) := by decide +kernel
theorem dX6_addLine_34 : decode cX6_addLine 34 = .ok (.invokespecial 51, 3) := by decide +kernel
theorem dX6_addLine_37 : decode cX6_addLine 37 = .ok (.athrow, 1) := by decide +kernel
theorem dX6_addLine_38 : decode cX6_addLine 38 = .ok (.aload_n 0, 1) := by decide +kernel
theorem dX6_addLine_39 : decode cX6_addLine 39 = .ok (.getfield 11, 3) := by decide +kernel
theorem dX6_addLine_42 : decode cX6_addLine 42 = .ok (.aload_n 0, 1) := by decide +kernel
theorem dX6_addLine_43 : decode cX6_addLine 43 = .ok (.getfield 43, 3) := by decide +kernel
theorem dX6_addLine_46 : decode cX6_addLine 46 = .ok (.aaload, 1) := by decide +kernel
theorem dX6_addLine_47 : decode cX6_addLine 47 = .ok (.iload_n 1, 1) := by decide +kernel
theorem dX6_addLine_48 : decode cX6_addLine 48 = .ok (.invokestatic 52, 3) := by decide +kernel
theorem dX6_addLine_51 : decode cX6_addLine 51 = .ok (.putfield 56, 3) := by decide +kernel
theorem dX6_addLine_54 : decode cX6_addLine 54 = .ok (.aload_n 0, 1) := by decide +kernel
theorem dX6_addLine_55 : decode cX6_addLine 55 = .ok (.dup, 1) := by decide +kernel
theorem dX6_addLine_56 : decode cX6_addLine 56 = .ok (.getfield 43, 3) := by decide +kernel
theorem dX6_addLine_59 : decode cX6_addLine 59 = .ok (.iconst 1, 1) := by decide +kernel
theorem dX6_addLine_60 : decode cX6_addLine 60 = .ok (.iadd, 1) := by decide +kernel
theorem dX6_addLine_61 : decode cX6_addLine 61 = .ok (.putfield 43, 3) := by decide +kernel
theorem dX6_addLine_64 : decode cX6_addLine 64 = .ok (.aload_n 0, 1) := by decide +kernel
theorem dX6_addLine_65 : decode cX6_addLine 65 = .ok (.getfield 43, 3) := by decide +kernel
theorem dX6_addLine_68 : decode cX6_addLine 68 = .ok (.iconst 1, 1) := by decide +kernel
theorem dX6_addLine_69 : decode cX6_addLine 69 = .ok (.isub, 1) := by decide +kernel
theorem dX6_addLine_70 : decode cX6_addLine 70 = .ok (.ireturn, 1) := by decide +kernel
theorem dX6_addPart_0 : decode cX6_addPart 0 = .ok (.aload_n 0, 1) := by decide +kernel
theorem dX6_addPart_1 : decode cX6_addPart 1 = .ok (.iload_n 1, 1) := by decide +kernel
theorem dX6_addPart_2 : decode cX6_addPart 2 = .ok (.invokevirtual 59, 3) := by decide +kernel
theorem dX6_addPart_5 : decode cX6_addPart 5 = .ok (.astore 4, 2) := by decide +kernel
theorem dX6_addPart_7 : decode cX6_addPart 7 = .ok (.iload_n 2, 1) := by decide +kernel
theorem dX6_addPart_8 : decode cX6_addPart 8 = .ok (.bipush 115, 2) := by decide +kernel
theorem dX6_addPart_10 : decode cX6_addPart 10 = .ok (.if_icmp .eq 25, 3) := by decide +kernel
theorem dX6_addPart_13 : decode cX6_addPart 13 = .ok (.iload_n 2, 1) := by decide +kernel
theorem dX6_addPart_14 : decode cX6_addPart 14 = .ok (.bipush 101, 2) := by decide +kernel
theorem dX6_addPart_16 : decode cX6_addPart 16 = .ok (.if_icmp .eq 19, 3) := by decide +kernel
theorem dX6_addPart_19 : decode cX6_addPart 19 = .ok (.iload_n 2, 1) := by decide +kernel
theorem dX6_addPart_20 : decode cX6_addPart 20 = .ok (.bipush 118, 2) := by decide +kernel
theorem dX6_addPart_22 : decode cX6_addPart 22 = .ok (.if_icmp .eq 13, 3) := by decide +kernel
theorem dX6_addPart_25 : decode cX6_addPart 25 = .ok (.new 36, 3) := by decide +kernel
theorem dX6_addPart_28 : decode cX6_addPart 28 = .ok (.dup, 1) := by decide +kernel
theorem dX6_addPart_29 : decode cX6_addPart 29 = .ok (.ldc 63, 2) := by decide +kernel
theorem dX6_addPart_31 : decode cX6_addPart 31 = .ok (.invokespecial 40, 3) := by decide +kernel
theorem dX6_addPart_34 : decode cX6_addPart 34 = .ok (.athrow, 1) := by decide +kernel
theorem dX6_addPart_35 : decode cX6_addPart 35 = .ok (.iload_n 2, 1) := by decide +kernel
theorem dX6_addPart_36 : decode cX6_addPart 36 = .ok (.bipush 115, 2) := by decide +kernel
theorem dX6_addPart_38 : decode cX6_addPart 38 = .ok (.if_icmp .ne 20, 3) := by decide +kernel
theorem dX6_addPart_41 : decode cX6_addPart 41 = .ok (.iload_n 3, 1) := by decide +kernel
theorem dX6_addPart_42 : decode cX6_addPart 42 = .ok (.invokestatic 65, 3) := by decide +kernel
theorem dX6_addPart_45 : decode cX6_addPart 45 = .ok (.ifCond .ne 13, 3) := by decide +kernel
theorem dX6_addPart_48 : decode cX6_addPart 48 = .ok (.new 36, 3) := by decide +kernel
theorem dX6_addPart_51 : decode cX6_addPart 51 = .ok (.dup, 1) := by decide +kernel
theorem dX6_addPart_52 : decode cX6_addPart 52 = .ok (.ldc 69, 2) := by decide +kernel
theorem dX6_addPart_54 : decode cX6_addPart 54 = .ok (.invokespecial 40, 3) := by decide +kernel
theorem dX6_addPart_57 : decode cX6_addPart 57 = .ok (.athrow, 1) := by decide +kernel
theorem dX6_addPart_58 : decode cX6_addPart 58 = .ok (.aload 4, 2) := by decide +kernel
theorem dX6_addPart_60 : decode cX6_addPart 60 = .ok (.getfield 71, 3) := by decide +kernel
theorem dX6_addPart_63 : decode cX6_addPart 63 = .ok (.bipush 10, 2) := by decide +kernel
theorem dX6_addPart_65 : decode cX6_addPart 65 = .ok (.if_icmp .lt 13, 3) := by decide +kernel
theorem dX6_addPart_68 : decode cX6_addPart 68 = .ok (.new 47, 3) := by decide +kernel
theorem dX6_addPart_71 : decode cX6_addPart 71 = .ok (.dup, 1) := by decide +kernel
theorem dX6_addPart_72 : decode cX6_addPart 72 = .ok (.ldc 74, 2) := by decide +kernel
theorem dX6_addPart_74 : decode cX6_addPart 74 = .ok (.invokespecial 51, 3) := by decide +kernel
theorem dX6_addPart_77 : decode cX6_addPart 77 = .ok (.athrow, 1) := by decide +kernel
theorem dX6_addPart_78 : decode cX6_addPart 78 = .ok (.aload 4, 2) := by decide +kernel
theorem dX6_addPart_80 : decode cX6_addPart 80 = .ok (.iload_n 2, 1) := by decide +kernel
theorem dX6_addPart_81 : decode cX6_addPart 81 = .ok (.iload_n 2, 1) := by decide +kernel
theorem dX6_addPart_82 : decode cX6_addPart 82 = .ok (.bipush 115, 2) := by decide +kernel
theorem dX6_addPart_84 : decode cX6_addPart 84 = .ok (.if_icmp .ne 7, 3) := by decide +kernel
theorem dX6_addPart_87 : decode cX6_addPart 87 = .ok (.iload_n 3, 1) := by decide +kernel
theorem dX6_addPart_88 : decode cX6_addPart 88 = .ok (.goto 6, 3) := by decide +kernel
theorem dX6_addPart_91 : decode cX6_addPart 91 = .ok (.sipush 300, 3) := by decide +kernel
theorem dX6_addPart_94 : decode cX6_addPart 94 = .ok (.invokevirtual 76, 3) := by decide +kernel
theorem dX6_addPart_97 : decode cX6_addPart 97 = .ok (.aload 4, 2) := by decide +kernel
theorem dX6_addPart_99 : decode cX6_addPart 99 = .ok (.getfield 71, 3) := by decide +kernel
theorem dX6_addPart_102 : decode cX6_addPart 102 = .ok (.iconst 1, 1) := by decide +kernel
theorem dX6_addPart_103 : decode cX6_addPart 103 = .ok (.isub, 1) := by decide +kernel
theorem dX6_addPart_104 : decode cX6_addPart 104 = .ok (.ireturn, 1) := by decide +kernel
theorem dX6_setLength_0 : decode cX6_setLength 0 = .ok (.aload_n 0, 1) := by decide +kernel
theorem dX6_setLength_1 : decode cX6_setLength 1 = .ok (.iload_n 1, 1) := by decide +kernel
theorem dX6_setLength_2 : decode cX6_setLength 2 = .ok (.iload_n 2, 1) := by decide +kernel
theorem dX6_setLength_3 : decode cX6_setLength 3 = .ok (.invokevirtual 80, 3) := by decide +kernel
theorem dX6_setLength_6 : decode cX6_setLength 6 = .ok (.astore 4, 2) := by decide +kernel
theorem dX6_setLength_8 : decode cX6_setLength 8 = .ok (.iload_n 3, 1) := by decide +kernel
theorem dX6_setLength_9 : decode cX6_setLength 9 = .ok (.invokestatic 65, 3) := by decide +kernel
theorem dX6_setLength_12 : decode cX6_setLength 12 = .ok (.ifCond .ne 13, 3) := by decide +kernel
theorem dX6_setLength_15 : decode cX6_setLength 15 = .ok (.new 36, 3) := by decide +kernel
theorem dX6_setLength_18 : decode cX6_setLength 18 = .ok (.dup, 1) := by decide +kernel
theorem dX6_setLength_19 : decode cX6_setLength 19 = .ok (.ldc 69, 2) := by decide +kernel
theorem dX6_setLength_21 : decode cX6_setLength 21 = .ok (.invokespecial 40, 3) := by decide +kernel
theorem dX6_setLength_24 : decode cX6_setLength 24 = .ok (.athrow, 1) := by decide +kernel
theorem dX6_setLength_25 : decode cX6_setLength 25 = .ok (.aload 4, 2) := by decide +kernel
theorem dX6_setLength_27 : decode cX6_setLength 27 = .ok (.getfield 84, 3) := by decide +kernel
theorem dX6_setLength_30 : decode cX6_setLength 30 = .ok (.bipush 115, 2) := by decide +kernel
theorem dX6_setLength_32 : decode cX6_setLength 32 = .ok (.if_icmp .ne 12, 3) := by decide +kernel
theorem dX6_setLength_35 : decode cX6_setLength 35 = .ok (.aload 4, 2) := by decide +kernel
theorem dX6_setLength_37 : decode cX6_setLength 37 = .ok (.getfield 90, 3) := by decide +kernel
theorem dX6_setLength_40 : decode cX6_setLength 40 = .ok (.iload_n 3, 1) := by decide +kernel
theorem dX6_setLength_41 : decode cX6_setLength 41 = .ok (.if_icmp .ne 13, 3) := by decide +kernel
theorem dX6_setLength_44 : decode cX6_setLength 44 = .ok (.new 93, 3) := by decide +kernel
theorem dX6_setLength_47 : decode cX6_setLength 47 = .ok (.dup, 1) := by decide +kernel
theorem dX6_setLength_48 : decode cX6_setLength 48 = .ok (.ldc 95, 2) := by decide +kernel
theorem dX6_setLength_50 : decode cX6_setLength 50 = .ok (.invokespecial 97, 3) := by decide +kernel
theorem dX6_setLength_53 : decode cX6_setLength 53 = .ok (.athrow, 1) := by decide +kernel
theorem dX6_setLength_54 : decode cX6_setLength 54 = .ok (.aload 4, 2) := by decide +kernel
theorem dX6_setLength_56 : decode cX6_setLength 56 = .ok (.getfield 90, 3) := by decide +kernel
theorem dX6_setLength_59 : decode cX6_setLength 59 = .ok (.istore 5, 2) := by decide +kernel
theorem dX6_setLength_61 : decode cX6_setLength 61 = .ok (.aload 4, 2) := by decide +kernel
theorem dX6_setLength_63 : decode cX6_setLength 63 = .ok (.invokevirtual 98, 3) := by decide +kernel
theorem dX6_setLength_66 : decode cX6_setLength 66 = .ok (.aload 4, 2) := by decide +kernel
theorem dX6_setLength_68 : decode cX6_setLength 68 = .ok (.iload_n 3, 1) := by decide +kernel
theorem dX6_setLength_69 : decode cX6_setLength 69 = .ok (.putfield 90, 3) := by decide +kernel
theorem dX6_setLength_72 : decode cX6_setLength 72 = .ok (.aload_n 0, 1) := by decide +kernel
theorem dX6_setLength_73 : decode cX6_setLength 73 = .ok (.getfield 11, 3) := by decide +kernel
theorem dX6_setLength_76 : decode cX6_setLength 76 = .ok (.iload_n 1, 1) := by decide +kernel
theorem dX6_setLength_77 : decode cX6_setLength 77 = .ok (.aaload, 1) := by decide +kernel
theorem dX6_setLength_78 : decode cX6_setLength 78 = .ok (.iconst 0, 1) := by decide +kernel
theorem dX6_setLength_79 : decode cX6_setLength 79 = .ok (.putfield 101, 3) := by decide +kernel
theorem dX6_setLength_82 : decode cX6_setLength 82 = .ok (.aload_n 0, 1) := by decide +kernel
theorem dX6_setLength_83 : decode cX6_setLength 83 = .ok (.dup, 1) := by decide +kernel
theorem dX6_setLength_84 : decode cX6_setLength 84 = .ok (.getfield 105, 3) := by decide +kernel
theorem dX6_setLength_87 : decode cX6_setLength 87 = .ok (.aload_n 0, 1) := by decide +kernel
theorem dX6_setLength_88 : decode cX6_setLength 88 = .ok (.getfield 11, 3) := by decide +kernel
theorem dX6_setLength_91 : decode cX6_setLength 91 = .ok (.iload_n 1, 1) := by decide +kernel
theorem dX6_setLength_92 : decode cX6_setLength 92 = .ok (.aaload, 1) := by decide +kernel
theorem dX6_setLength_93 : decode cX6_setLength 93 = .ok (.iload_n 2, 1) := by decide +kernel
theorem dX6_setLength_94 : decode cX6_setLength 94 = .ok (.invokevirtual 108, 3) := by decide +kernel
theorem dX6_setLength_97 : decode cX6_setLength 97 = .ok (.iadd, 1) := by decide +kernel
theorem dX6_setLength_98 : decode cX6_setLength 98 = .ok (.putfield 105, 3) := by decide +kernel
theorem dX6_setLength_101 : decode cX6_setLength 101 = .ok (.iload 5, 2) := by decide +kernel
theorem dX6_setLength_103 : decode cX6_setLength 103 = .ok (.ireturn, 1) := by decide +kernel
theorem dX6_length_0 : decode cX6_length 0 = .ok (.aload_n 0, 1) := by decide +kernel
theorem dX6_length_1 : decode cX6_length 1 = .ok (.iload_n 1, 1) := by decide +kernel
theorem dX6_length_2 : decode cX6_length 2 = .ok (.invokevirtual 59, 3) := by decide +kernel
theorem dX6_length_5 : decode cX6_length 5 = .ok (.invokevirtual 111, 3) := by decide +kernel
theorem dX6_length_8 : decode cX6_length 8 = .ok (.ireturn, 1) := by decide +kernel
theorem dX6_spools_0 : decode cX6_spools 0 = .ok (.aload_n 0, 1) := by decide +kernel
theorem dX6_spools_1 : decode cX6_spools 1 = .ok (.iload_n 1, 1) := by decide +kernel
theorem dX6_spools_2 : decode cX6_spools 2 = .ok (.invokevirtual 59, 3) := by decide +kernel
theorem dX6_spools_5 : decode cX6_spools 5 = .ok (.invokevirtual 115, 3) := by decide +kernel
theorem dX6_spools_8 : decode cX6_spools 8 = .ok (.ireturn, 1) := by decide +kernel
theorem dX6_spoolOf_0 : decode cX6_spoolOf 0 = .ok (.aload_n 0, 1) := by decide +kernel
theorem dX6_spoolOf_1 : decode cX6_spoolOf 1 = .ok (.iload_n 1, 1) := by decide +kernel
theorem dX6_spoolOf_2 : decode cX6_spoolOf 2 = .ok (.iload_n 2, 1) := by decide +kernel
theorem dX6_spoolOf_3 : decode cX6_spoolOf 3 = .ok (.invokevirtual 118, 3) := by decide +kernel
theorem dX6_spoolOf_6 : decode cX6_spoolOf 6 = .ok (.aload_n 0, 1) := by decide +kernel
theorem dX6_spoolOf_7 : decode cX6_spoolOf 7 = .ok (.getfield 11, 3) := by decide +kernel
theorem dX6_spoolOf_10 : decode cX6_spoolOf 10 = .ok (.iload_n 1, 1) := by decide +kernel
theorem dX6_spoolOf_11 : decode cX6_spoolOf 11 = .ok (.aaload, 1) := by decide +kernel
theorem dX6_spoolOf_12 : decode cX6_spoolOf 12 = .ok (.iload_n 2, 1) := by decide +kernel
theorem dX6_spoolOf_13 : decode cX6_spoolOf 13 = .ok (.invokevirtual 122, 3) := by decide +kernel
theorem dX6_spoolOf_16 : decode cX6_spoolOf 16 = .ok (.ireturn, 1) := by decide +kernel
theorem dX6_isField_0 : decode cX6_isField 0 = .ok (.aload_n 0, 1) := by decide +kernel
theorem dX6_isField_1 : decode cX6_isField 1 = .ok (.iload_n 1, 1) := by decide +kernel
theorem dX6_isField_2 : decode cX6_isField 2 = .ok (.iload_n 2, 1) := by decide +kernel
theorem dX6_isField_3 : decode cX6_isField 3 = .ok (.invokevirtual 125, 3) := by decide +kernel
theorem dX6_isField_6 : decode cX6_isField 6 = .ok (.aload_n 0, 1) := by decide +kernel
theorem dX6_isField_7 : decode cX6_isField 7 = .ok (.getfield 11, 3) := by decide +kernel
theorem dX6_isField_10 : decode cX6_isField 10 = .ok (.iload_n 1, 1) := by decide +kernel
theorem dX6_isField_11 : decode cX6_isField 11 = .ok (.aaload, 1) := by decide +kernel
theorem dX6_isField_12 : decode cX6_isField 12 = .ok (.iload_n 2, 1) := by decide +kernel
theorem dX6_isField_13 : decode cX6_isField 13 = .ok (.invokevirtual 122, 3) := by decide +kernel
theorem dX6_isField_16 : decode cX6_isField 16 = .ok (.aload_n 0, 1) := by decide +kernel
theorem dX6_isField_17 : decode cX6_isField 17 = .ok (.getfield 11, 3) := by decide +kernel
theorem dX6_isField_20 : decode cX6_isField 20 = .ok (.iload_n 1, 1) := by decide +kernel
theorem dX6_isField_21 : decode cX6_isField 21 = .ok (.aaload, 1) := by decide +kernel
theorem dX6_isField_22 : decode cX6_isField 22 = .ok (.iload_n 2, 1) := by decide +kernel
theorem dX6_isField_23 : decode cX6_isField 23 = .ok (.iconst 1, 1) := by decide +kernel
theorem dX6_isField_24 : decode cX6_isField 24 = .ok (.iadd, 1) := by decide +kernel
theorem dX6_isField_25 : decode cX6_isField 25 = .ok (.invokevirtual 122, 3) := by decide +kernel
theorem dX6_isField_28 : decode cX6_isField 28 = .ok (.if_icmp .eq 7, 3) := by decide +kernel
theorem dX6_isField_31 : decode cX6_isField 31 = .ok (.iconst 1, 1) := by decide +kernel
theorem dX6_isField_32 : decode cX6_isField 32 = .ok (.goto 4, 3) := by decide +kernel
theorem dX6_isField_35 : decode cX6_isField 35 = .ok (.iconst 0, 1) := by decide +kernel
theorem dX6_isField_36 : decode cX6_isField 36 = .ok (.ireturn, 1) := by decide +kernel
theorem dX6_addHeat_0 : decode cX6_addHeat 0 = .ok (.iload_n 1, 1) := by decide +kernel
theorem dX6_addHeat_1 : decode cX6_addHeat 1 = .ok (.invokestatic 128, 3) := by decide +kernel
theorem dX6_addHeat_4 : decode cX6_addHeat 4 = .ok (.ifCond .eq 16, 3) := by decide +kernel
theorem dX6_addHeat_7 : decode cX6_addHeat 7 = .ok (.iload_n 2, 1) := by decide +kernel
theorem dX6_addHeat_8 : decode cX6_addHeat 8 = .ok (.bipush 100, 2) := by decide +kernel
theorem dX6_addHeat_10 : decode cX6_addHeat 10 = .ok (.if_icmp .lt 10, 3) := by decide +kernel
theorem dX6_addHeat_13 : decode cX6_addHeat 13 = .ok (.iload_n 2, 1) := by decide +kernel
theorem dX6_addHeat_14 : decode cX6_addHeat 14 = .ok (.sipush 20000, 3) := by decide +kernel
theorem dX6_addHeat_17 : decode cX6_addHeat 17 = .ok (.if_icmp .le 13, 3) := by decide +kernel
theorem dX6_addHeat_20 : decode cX6_addHeat 20 = .ok (.new 36, 3) := by decide +kernel
theorem dX6_addHeat_23 : decode cX6_addHeat 23 = .ok (.dup, 1) := by decide +kernel
theorem dX6_addHeat_24 : decode cX6_addHeat 24 = .ok (.ldc 131, 2) := by decide +kernel
theorem dX6_addHeat_26 : decode cX6_addHeat 26 = .ok (.invokespecial 40, 3) := by decide +kernel
theorem dX6_addHeat_29 : decode cX6_addHeat 29 = .ok (.athrow, 1) := by decide +kernel
theorem dX6_addHeat_30 : decode cX6_addHeat 30 = .ok (.aload_n 0, 1) := by decide +kernel
theorem dX6_addHeat_31 : decode cX6_addHeat 31 = .ok (.getfield 133, 3) := by decide +kernel
theorem dX6_addHeat_34 : decode cX6_addHeat 34 = .ok (.bipush 8, 2) := by decide +kernel
theorem dX6_addHeat_36 : decode cX6_addHeat 36 = .ok (.if_icmp .lt 13, 3) := by decide +kernel
theorem dX6_addHeat_39 : decode cX6_addHeat 39 = .ok (.new 47, 3) := by decide +kernel
theorem dX6_addHeat_42 : decode cX6_addHeat 42 = .ok (.dup, 1) := by decide +kernel
theorem dX6_addHeat_43 : decode cX6_addHeat 43 = .ok (.ldc 136, 2) := by decide +kernel
theorem dX6_addHeat_45 : decode cX6_addHeat 45 = .ok (.invokespecial 51, 3) := by decide +kernel
theorem dX6_addHeat_48 : decode cX6_addHeat 48 = .ok (.athrow, 1) := by decide +kernel
theorem dX6_addHeat_49 : decode cX6_addHeat 49 = .ok (.aload_n 0, 1) := by decide +kernel
theorem dX6_addHeat_50 : decode cX6_addHeat 50 = .ok (.getfield 17, 3) := by decide +kernel
theorem dX6_addHeat_53 : decode cX6_addHeat 53 = .ok (.aload_n 0, 1) := by decide +kernel
theorem dX6_addHeat_54 : decode cX6_addHeat 54 = .ok (.getfield 133, 3) := by decide +kernel
theorem dX6_addHeat_57 : decode cX6_addHeat 57 = .ok (.aaload, 1) := by decide +kernel
theorem dX6_addHeat_58 : decode cX6_addHeat 58 = .ok (.astore 4, 2) := by decide +kernel
theorem dX6_addHeat_60 : decode cX6_addHeat 60 = .ok (.aload 4, 2) := by decide +kernel
theorem dX6_addHeat_62 : decode cX6_addHeat 62 = .ok (.iload_n 1, 1) := by decide +kernel
theorem dX6_addHeat_63 : decode cX6_addHeat 63 = .ok (.putfield 138, 3) := by decide +kernel
theorem dX6_addHeat_66 : decode cX6_addHeat 66 = .ok (.aload 4, 2) := by decide +kernel
theorem dX6_addHeat_68 : decode cX6_addHeat 68 = .ok (.iload_n 2, 1) := by decide +kernel
theorem dX6_addHeat_69 : decode cX6_addHeat 69 = .ok (.putfield 141, 3) := by decide +kernel
theorem dX6_addHeat_72 : decode cX6_addHeat 72 = .ok (.aload 4, 2) := by decide +kernel
theorem dX6_addHeat_74 : decode cX6_addHeat 74 = .ok (.iload_n 2, 1) := by decide +kernel
theorem dX6_addHeat_75 : decode cX6_addHeat 75 = .ok (.putfield 142, 3) := by decide +kernel
theorem dX6_addHeat_78 : decode cX6_addHeat 78 = .ok (.aload 4, 2) := by decide +kernel
theorem dX6_addHeat_80 : decode cX6_addHeat 80 = .ok (.iload_n 3, 1) := by decide +kernel
theorem dX6_addHeat_81 : decode cX6_addHeat 81 = .ok (.putfield 145, 3) := by decide +kernel
theorem dX6_addHeat_84 : decode cX6_addHeat 84 = .ok (.aload_n 0, 1) := by decide +kernel
theorem dX6_addHeat_85 : decode cX6_addHeat 85 = .ok (.dup, 1) := by decide +kernel
theorem dX6_addHeat_86 : decode cX6_addHeat 86 = .ok (.getfield 133, 3) := by decide +kernel
theorem dX6_addHeat_89 : decode cX6_addHeat 89 = .ok (.iconst 1, 1) := by decide +kernel
theorem dX6_addHeat_90 : decode cX6_addHeat 90 = .ok (.iadd, 1) := by decide +kernel
theorem dX6_addHeat_91 : decode cX6_addHeat 91 = .ok (.putfield 133, 3) := by decide +kernel
theorem dX6_addHeat_94 : decode cX6_addHeat 94 = .ok (.aload 4, 2) := by decide +kernel
theorem dX6_addHeat_96 : decode cX6_addHeat 96 = .ok (.getfield 148, 3) := by decide +kernel
theorem dX6_addHeat_99 : decode cX6_addHeat 99 = .ok (.ireturn, 1) := by decide +kernel
theorem dX6_left_0 : decode cX6_left 0 = .ok (.aload_n 0, 1) := by decide +kernel
theorem dX6_left_1 : decode cX6_left 1 = .ok (.iload_n 1, 1) := by decide +kernel
theorem dX6_left_2 : decode cX6_left 2 = .ok (.invokevirtual 151, 3) := by decide +kernel
theorem dX6_left_5 : decode cX6_left 5 = .ok (.getfield 142, 3) := by decide +kernel
theorem dX6_left_8 : decode cX6_left 8 = .ok (.ireturn, 1) := by decide +kernel
theorem dX6_losePaper_0 : decode cX6_losePaper 0 = .ok (.aload_n 0, 1) := by decide +kernel
theorem dX6_losePaper_1 : decode cX6_losePaper 1 = .ok (.iload_n 1, 1) := by decide +kernel
theorem dX6_losePaper_2 : decode cX6_losePaper 2 = .ok (.invokevirtual 151, 3) := by decide +kernel
theorem dX6_losePaper_5 : decode cX6_losePaper 5 = .ok (.iconst 0, 1) := by decide +kernel
theorem dX6_losePaper_6 : decode cX6_losePaper 6 = .ok (.invokevirtual 155, 3) := by decide +kernel
theorem dX6_losePaper_9 : decode cX6_losePaper 9 = .ok (.ireturn, 1) := by decide +kernel
theorem dX6_test_0 : decode cX6_test 0 = .ok (.aload_n 0, 1) := by decide +kernel
theorem dX6_test_1 : decode cX6_test 1 = .ok (.iload_n 1, 1) := by decide +kernel
theorem dX6_test_2 : decode cX6_test 2 = .ok (.invokevirtual 151, 3) := by decide +kernel
theorem dX6_test_5 : decode cX6_test 5 = .ok (.iconst 1, 1) := by decide +kernel
theorem dX6_test_6 : decode cX6_test 6 = .ok (.invokevirtual 155, 3) := by decide +kernel
theorem dX6_test_9 : decode cX6_test 9 = .ok (.ireturn, 1) := by decide +kernel
theorem dX6_give_0 : decode cX6_give 0 = .ok (.aload_n 0, 1) := by decide +kernel
theorem dX6_give_1 : decode cX6_give 1 = .ok (.iload_n 1, 1) := by decide +kernel
theorem dX6_give_2 : decode cX6_give 2 = .ok (.iload_n 2, 1) := by decide +kernel
theorem dX6_give_3 : decode cX6_give 3 = .ok (.invokevirtual 80, 3) := by decide +kernel
theorem dX6_give_6 : decode cX6_give 6 = .ok (.astore 4, 2) := by decide +kernel
theorem dX6_give_8 : decode cX6_give 8 = .ok (.aload_n 0, 1) := by decide +kernel
theorem dX6_give_9 : decode cX6_give 9 = .ok (.iload_n 3, 1) := by decide +kernel
theorem dX6_give_10 : decode cX6_give 10 = .ok (.invokevirtual 151, 3) := by decide +kernel
theorem dX6_give_13 : decode cX6_give 13 = .ok (.astore 5, 2) := by decide +kernel
theorem dX6_give_15 : decode cX6_give 15 = .ok (.aload 4, 2) := by decide +kernel
theorem dX6_give_17 : decode cX6_give 17 = .ok (.getfield 159, 3) := by decide +kernel
theorem dX6_give_20 : decode cX6_give 20 = .ok (.aload 5, 2) := by decide +kernel
theorem dX6_give_22 : decode cX6_give 22 = .ok (.if_acmp .eq 16, 3) := by decide +kernel
theorem dX6_give_25 : decode cX6_give 25 = .ok (.aload 5, 2) := by decide +kernel
theorem dX6_give_27 : decode cX6_give 27 = .ok (.getfield 142, 3) := by decide +kernel
theorem dX6_give_30 : decode cX6_give 30 = .ok (.aload 4, 2) := by decide +kernel
theorem dX6_give_32 : decode cX6_give 32 = .ok (.getfield 90, 3) := by decide +kernel
theorem dX6_give_35 : decode cX6_give 35 = .ok (.if_icmp .ge 13, 3) := by decide +kernel
theorem dX6_give_38 : decode cX6_give 38 = .ok (.new 93, 3) := by decide +kernel
theorem dX6_give_41 : decode cX6_give 41 = .ok (.dup, 1) := by decide +kernel
theorem dX6_give_42 : decode cX6_give 42 = .ok (.ldc 163, 2) := by decide +kernel
theorem dX6_give_44 : decode cX6_give 44 = .ok (.invokespecial 97, 3) := by decide +kernel
theorem dX6_give_47 : decode cX6_give 47 = .ok (.athrow, 1) := by decide +kernel
theorem dX6_give_48 : decode cX6_give 48 = .ok (.aload 4, 2) := by decide +kernel
theorem dX6_give_50 : decode cX6_give 50 = .ok (.invokevirtual 98, 3) := by decide +kernel
theorem dX6_give_53 : decode cX6_give 53 = .ok (.aload 4, 2) := by decide +kernel
theorem dX6_give_55 : decode cX6_give 55 = .ok (.aload 5, 2) := by decide +kernel
theorem dX6_give_57 : decode cX6_give 57 = .ok (.invokevirtual 165, 3) := by decide +kernel
theorem dX6_give_60 : decode cX6_give 60 = .ok (.aload_n 0, 1) := by decide +kernel
theorem dX6_give_61 : decode cX6_give 61 = .ok (.getfield 11, 3) := by decide +kernel
theorem dX6_give_64 : decode cX6_give 64 = .ok (.iload_n 1, 1) := by decide +kernel
theorem dX6_give_65 : decode cX6_give 65 = .ok (.aaload, 1) := by decide +kernel
theorem dX6_give_66 : decode cX6_give 66 = .ok (.iconst 0, 1) := by decide +kernel
theorem dX6_give_67 : decode cX6_give 67 = .ok (.putfield 101, 3) := by decide +kernel
theorem dX6_give_70 : decode cX6_give 70 = .ok (.aload_n 0, 1) := by decide +kernel
theorem dX6_give_71 : decode cX6_give 71 = .ok (.dup, 1) := by decide +kernel
theorem dX6_give_72 : decode cX6_give 72 = .ok (.getfield 105, 3) := by decide +kernel
theorem dX6_give_75 : decode cX6_give 75 = .ok (.aload_n 0, 1) := by decide +kernel
theorem dX6_give_76 : decode cX6_give 76 = .ok (.getfield 11, 3) := by decide +kernel
theorem dX6_give_79 : decode cX6_give 79 = .ok (.iload_n 1, 1) := by decide +kernel
theorem dX6_give_80 : decode cX6_give 80 = .ok (.aaload, 1) := by decide +kernel
theorem dX6_give_81 : decode cX6_give 81 = .ok (.iload_n 2, 1) := by decide +kernel
theorem dX6_give_82 : decode cX6_give 82 = .ok (.invokevirtual 108, 3) := by decide +kernel
theorem dX6_give_85 : decode cX6_give 85 = .ok (.iadd, 1) := by decide +kernel
theorem dX6_give_86 : decode cX6_give 86 = .ok (.putfield 105, 3) := by decide +kernel
theorem dX6_give_89 : decode cX6_give 89 = .ok (.aload 5, 2) := by decide +kernel
theorem dX6_give_91 : decode cX6_give 91 = .ok (.getfield 142, 3) := by decide +kernel
theorem dX6_give_94 : decode cX6_give 94 = .ok (.ireturn, 1) := by decide +kernel
theorem dX6_heatOf_0 : decode cX6_heatOf 0 = .ok (.aload_n 0, 1) := by decide +kernel
theorem dX6_heatOf_1 : decode cX6_heatOf 1 = .ok (.iload_n 1, 1) := by decide +kernel
theorem dX6_heatOf_2 : decode cX6_heatOf 2 = .ok (.iload_n 2, 1) := by decide +kernel
theorem dX6_heatOf_3 : decode cX6_heatOf 3 = .ok (.invokevirtual 80, 3) := by decide +kernel
theorem dX6_heatOf_6 : decode cX6_heatOf 6 = .ok (.getfield 159, 3) := by decide +kernel
theorem dX6_heatOf_9 : decode cX6_heatOf 9 = .ok (.astore_n 3, 1) := by decide +kernel
theorem dX6_heatOf_10 : decode cX6_heatOf 10 = .ok (.aload_n 3, 1) := by decide +kernel
theorem dX6_heatOf_11 : decode cX6_heatOf 11 = .ok (.ifnonnull 13, 3) := by decide +kernel
theorem dX6_heatOf_14 : decode cX6_heatOf 14 = .ok (.new 169, 3) := by decide +kernel
theorem dX6_heatOf_17 : decode cX6_heatOf 17 = .ok (.dup, 1) := by decide +kernel
theorem dX6_heatOf_18 : decode cX6_heatOf 18 = .ok (.ldc 171, 2) := by decide +kernel
theorem dX6_heatOf_20 : decode cX6_heatOf 20 = .ok (.invokespecial 173, 3) := by decide +kernel
theorem dX6_heatOf_23 : decode cX6_heatOf 23 = .ok (.athrow, 1) := by decide +kernel
theorem dX6_heatOf_24 : decode cX6_heatOf 24 = .ok (.aload_n 3, 1) := by decide +kernel
theorem dX6_heatOf_25 : decode cX6_heatOf 25 = .ok (.getfield 148, 3) := by decide +kernel
theorem dX6_heatOf_28 : decode cX6_heatOf 28 = .ok (.ireturn, 1) := by decide +kernel
theorem dX6_bestHeat_0 : decode cX6_bestHeat 0 = .ok (.aload_n 0, 1) := by decide +kernel
theorem dX6_bestHeat_1 : decode cX6_bestHeat 1 = .ok (.iload_n 1, 1) := by decide +kernel
theorem dX6_bestHeat_2 : decode cX6_bestHeat 2 = .ok (.iload_n 2, 1) := by decide +kernel
theorem dX6_bestHeat_3 : decode cX6_bestHeat 3 = .ok (.invokevirtual 80, 3) := by decide +kernel
theorem dX6_bestHeat_6 : decode cX6_bestHeat 6 = .ok (.astore 4, 2) := by decide +kernel
theorem dX6_bestHeat_8 : decode cX6_bestHeat 8 = .ok (.iload_n 3, 1) := by decide +kernel
theorem dX6_bestHeat_9 : decode cX6_bestHeat 9 = .ok (.invokestatic 128, 3) := by decide +kernel
theorem dX6_bestHeat_12 : decode cX6_bestHeat 12 = .ok (.ifCond .ne 13, 3) := by decide +kernel
theorem dX6_bestHeat_15 : decode cX6_bestHeat 15 = .ok (.new 36, 3) := by decide +kernel
theorem dX6_bestHeat_18 : decode cX6_bestHeat 18 = .ok (.dup, 1) := by decide +kernel
theorem dX6_bestHeat_19 : decode cX6_bestHeat 19 = .ok (.ldc 174, 2) := by decide +kernel
theorem dX6_bestHeat_21 : decode cX6_bestHeat 21 = .ok (.invokespecial 40, 3) := by decide +kernel
theorem dX6_bestHeat_24 : decode cX6_bestHeat 24 = .ok (.athrow, 1) := by decide +kernel
theorem dX6_bestHeat_25 : decode cX6_bestHeat 25 = .ok (.aconst_null, 1) := by decide +kernel
theorem dX6_bestHeat_26 : decode cX6_bestHeat 26 = .ok (.astore 5, 2) := by decide +kernel
theorem dX6_bestHeat_28 : decode cX6_bestHeat 28 = .ok (.iconst 0, 1) := by decide +kernel
theorem dX6_bestHeat_29 : decode cX6_bestHeat 29 = .ok (.istore 6, 2) := by decide +kernel
theorem dX6_bestHeat_31 : decode cX6_bestHeat 31 = .ok (.iload 6, 2) := by decide +kernel
theorem dX6_bestHeat_33 : decode cX6_bestHeat 33 = .ok (.aload_n 0, 1) := by decide +kernel
theorem dX6_bestHeat_34 : decode cX6_bestHeat 34 = .ok (.getfield 133, 3) := by decide +kernel
theorem dX6_bestHeat_37 : decode cX6_bestHeat 37 = .ok (.if_icmp .ge 54, 3) := by decide +kernel
theorem dX6_bestHeat_40 : decode cX6_bestHeat 40 = .ok (.aload_n 0, 1) := by decide +kernel
theorem dX6_bestHeat_41 : decode cX6_bestHeat 41 = .ok (.getfield 17, 3) := by decide +kernel
theorem dX6_bestHeat_44 : decode cX6_bestHeat 44 = .ok (.iload 6, 2) := by decide +kernel
theorem dX6_bestHeat_46 : decode cX6_bestHeat 46 = .ok (.aaload, 1) := by decide +kernel
theorem dX6_bestHeat_47 : decode cX6_bestHeat 47 = .ok (.astore 7, 2) := by decide +kernel
theorem dX6_bestHeat_49 : decode cX6_bestHeat 49 = .ok (.aload 7, 2) := by decide +kernel
theorem dX6_bestHeat_51 : decode cX6_bestHeat 51 = .ok (.aload 4, 2) := by decide +kernel
theorem dX6_bestHeat_53 : decode cX6_bestHeat 53 = .ok (.getfield 90, 3) := by decide +kernel
theorem dX6_bestHeat_56 : decode cX6_bestHeat 56 = .ok (.iload_n 3, 1) := by decide +kernel
theorem dX6_bestHeat_57 : decode cX6_bestHeat 57 = .ok (.invokevirtual 176, 3) := by decide +kernel
theorem dX6_bestHeat_60 : decode cX6_bestHeat 60 = .ok (.ifCond .eq 25, 3) := by decide +kernel
theorem dX6_bestHeat_63 : decode cX6_bestHeat 63 = .ok (.aload 5, 2) := by decide +kernel
theorem dX6_bestHeat_65 : decode cX6_bestHeat 65 = .ok (.ifnull 16, 3) := by decide +kernel
theorem dX6_bestHeat_68 : decode cX6_bestHeat 68 = .ok (.aload 7, 2) := by decide +kernel
theorem dX6_bestHeat_70 : decode cX6_bestHeat 70 = .ok (.getfield 142, 3) := by decide +kernel
theorem dX6_bestHeat_73 : decode cX6_bestHeat 73 = .ok (.aload 5, 2) := by decide +kernel
theorem dX6_bestHeat_75 : decode cX6_bestHeat 75 = .ok (.getfield 142, 3) := by decide +kernel
theorem dX6_bestHeat_78 : decode cX6_bestHeat 78 = .ok (.if_icmp .ge 7, 3) := by decide +kernel
theorem dX6_bestHeat_81 : decode cX6_bestHeat 81 = .ok (.aload 7, 2) := by decide +kernel
theorem dX6_bestHeat_83 : decode cX6_bestHeat 83 = .ok (.astore 5, 2) := by decide +kernel
theorem dX6_bestHeat_85 : decode cX6_bestHeat 85 = .ok (.iinc 6 1, 3) := by decide +kernel
theorem dX6_bestHeat_88 : decode cX6_bestHeat 88 = .ok (.goto (-57), 3) := by decide +kernel
theorem dX6_bestHeat_91 : decode cX6_bestHeat 91 = .ok (.aload 5, 2) := by decide +kernel
theorem dX6_bestHeat_93 : decode cX6_bestHeat 93 = .ok (.ifnonnull 13, 3) := by decide +kernel
theorem dX6_bestHeat_96 : decode cX6_bestHeat 96 = .ok (.new 169, 3) := by decide +kernel
theorem dX6_bestHeat_99 : decode cX6_bestHeat 99 = .ok (.dup, 1) := by decide +kernel
theorem dX6_bestHeat_100 : decode cX6_bestHeat 100 = .ok (.ldc 180, 2) := by decide +kernel
theorem dX6_bestHeat_102 : decode cX6_bestHeat 102 = .ok (.invokespecial 173, 3) := by decide +kernel
theorem dX6_bestHeat_105 : decode cX6_bestHeat 105 = .ok (.athrow, 1) := by decide +kernel
theorem dX6_bestHeat_106 : decode cX6_bestHeat 106 = .ok (.aload 5, 2) := by decide +kernel
theorem dX6_bestHeat_108 : decode cX6_bestHeat 108 = .ok (.getfield 148, 3) := by decide +kernel
theorem dX6_bestHeat_111 : decode cX6_bestHeat 111 = .ok (.ireturn, 1) := by decide +kernel
theorem dX6_addWelder_0 : decode cX6_addWelder 0 = .ok (.aload_n 0, 1) := by decide +kernel
theorem dX6_addWelder_1 : decode cX6_addWelder 1 = .ok (.getfield 182, 3) := by decide +kernel
theorem dX6_addWelder_4 : decode cX6_addWelder 4 = .ok (.iconst 5, 1) := by decide +kernel
theorem dX6_addWelder_5 : decode cX6_addWelder 5 = .ok (.if_icmp .lt 13, 3) := by decide +kernel
theorem dX6_addWelder_8 : decode cX6_addWelder 8 = .ok (.new 47, 3) := by decide +kernel
theorem dX6_addWelder_11 : decode cX6_addWelder 11 = .ok (.dup, 1) := by decide +kernel
theorem dX6_addWelder_12 : decode cX6_addWelder 12 = .ok (.ldc 185, 2) := by decide +kernel
theorem dX6_addWelder_14 : decode cX6_addWelder 14 = .ok (.invokespecial 51, 3) := by decide +kernel
theorem dX6_addWelder_17 : decode cX6_addWelder 17 = .ok (.athrow, 1) := by decide +kernel
theorem dX6_addWelder_18 : decode cX6_addWelder 18 = .ok (.aload_n 0, 1) := by decide +kernel
theorem dX6_addWelder_19 : decode cX6_addWelder 19 = .ok (.dup, 1) := by decide +kernel
theorem dX6_addWelder_20 : decode cX6_addWelder 20 = .ok (.getfield 182, 3) := by decide +kernel
theorem dX6_addWelder_23 : decode cX6_addWelder 23 = .ok (.iconst 1, 1) := by decide +kernel
theorem dX6_addWelder_24 : decode cX6_addWelder 24 = .ok (.iadd, 1) := by decide +kernel
theorem dX6_addWelder_25 : decode cX6_addWelder 25 = .ok (.putfield 182, 3) := by decide +kernel
theorem dX6_addWelder_28 : decode cX6_addWelder 28 = .ok (.aload_n 0, 1) := by decide +kernel
theorem dX6_addWelder_29 : decode cX6_addWelder 29 = .ok (.getfield 182, 3) := by decide +kernel
theorem dX6_addWelder_32 : decode cX6_addWelder 32 = .ok (.iconst 1, 1) := by decide +kernel
theorem dX6_addWelder_33 : decode cX6_addWelder 33 = .ok (.isub, 1) := by decide +kernel
theorem dX6_addWelder_34 : decode cX6_addWelder 34 = .ok (.ireturn, 1) := by decide +kernel
theorem dX6_ticket_0 : decode cX6_ticket 0 = .ok (.aload_n 0, 1) := by decide +kernel
theorem dX6_ticket_1 : decode cX6_ticket 1 = .ok (.iload_n 1, 1) := by decide +kernel
theorem dX6_ticket_2 : decode cX6_ticket 2 = .ok (.invokevirtual 187, 3) := by decide +kernel
theorem dX6_ticket_5 : decode cX6_ticket 5 = .ok (.astore 4, 2) := by decide +kernel
theorem dX6_ticket_7 : decode cX6_ticket 7 = .ok (.iload_n 2, 1) := by decide +kernel
theorem dX6_ticket_8 : decode cX6_ticket 8 = .ok (.invokestatic 128, 3) := by decide +kernel
theorem dX6_ticket_11 : decode cX6_ticket 11 = .ok (.ifCond .eq 14, 3) := by decide +kernel
theorem dX6_ticket_14 : decode cX6_ticket 14 = .ok (.iload_n 3, 1) := by decide +kernel
theorem dX6_ticket_15 : decode cX6_ticket 15 = .ok (.ifCond .lt 10, 3) := by decide +kernel
theorem dX6_ticket_18 : decode cX6_ticket 18 = .ok (.iload_n 3, 1) := by decide +kernel
theorem dX6_ticket_19 : decode cX6_ticket 19 = .ok (.sipush 999, 3) := by decide +kernel
theorem dX6_ticket_22 : decode cX6_ticket 22 = .ok (.if_icmp .le 13, 3) := by decide +kernel
theorem dX6_ticket_25 : decode cX6_ticket 25 = .ok (.new 36, 3) := by decide +kernel
theorem dX6_ticket_28 : decode cX6_ticket 28 = .ok (.dup, 1) := by decide +kernel
theorem dX6_ticket_29 : decode cX6_ticket 29 = .ok (.ldc 191, 2) := by decide +kernel
theorem dX6_ticket_31 : decode cX6_ticket 31 = .ok (.invokespecial 40, 3) := by decide +kernel
theorem dX6_ticket_34 : decode cX6_ticket 34 = .ok (.athrow, 1) := by decide +kernel
theorem dX6_ticket_35 : decode cX6_ticket 35 = .ok (.aload 4, 2) := by decide +kernel
theorem dX6_ticket_37 : decode cX6_ticket 37 = .ok (.getfield 193, 3) := by decide +kernel
theorem dX6_ticket_40 : decode cX6_ticket 40 = .ok (.iload_n 2, 1) := by decide +kernel
theorem dX6_ticket_41 : decode cX6_ticket 41 = .ok (.iaload, 1) := by decide +kernel
theorem dX6_ticket_42 : decode cX6_ticket 42 = .ok (.istore 5, 2) := by decide +kernel
theorem dX6_ticket_44 : decode cX6_ticket 44 = .ok (.aload 4, 2) := by decide +kernel
theorem dX6_ticket_46 : decode cX6_ticket 46 = .ok (.getfield 193, 3) := by decide +kernel
theorem dX6_ticket_49 : decode cX6_ticket 49 = .ok (.iload_n 2, 1) := by decide +kernel
theorem dX6_ticket_50 : decode cX6_ticket 50 = .ok (.iload_n 3, 1) := by decide +kernel
theorem dX6_ticket_51 : decode cX6_ticket 51 = .ok (.iastore, 1) := by decide +kernel
theorem dX6_ticket_52 : decode cX6_ticket 52 = .ok (.iload 5, 2) := by decide +kernel
theorem dX6_ticket_54 : decode cX6_ticket 54 = .ok (.ireturn, 1) := by decide +kernel
theorem dX6_mayWeld_0 : decode cX6_mayWeld 0 = .ok (.aload_n 0, 1) := by decide +kernel
theorem dX6_mayWeld_1 : decode cX6_mayWeld 1 = .ok (.iload_n 1, 1) := by decide +kernel
theorem dX6_mayWeld_2 : decode cX6_mayWeld 2 = .ok (.iload_n 2, 1) := by decide +kernel
theorem dX6_mayWeld_3 : decode cX6_mayWeld 3 = .ok (.invokevirtual 125, 3) := by decide +kernel
theorem dX6_mayWeld_6 : decode cX6_mayWeld 6 = .ok (.aload_n 0, 1) := by decide +kernel
theorem dX6_mayWeld_7 : decode cX6_mayWeld 7 = .ok (.aload_n 0, 1) := by decide +kernel
theorem dX6_mayWeld_8 : decode cX6_mayWeld 8 = .ok (.getfield 11, 3) := by decide +kernel
theorem dX6_mayWeld_11 : decode cX6_mayWeld 11 = .ok (.iload_n 1, 1) := by decide +kernel
theorem dX6_mayWeld_12 : decode cX6_mayWeld 12 = .ok (.aaload, 1) := by decide +kernel
theorem dX6_mayWeld_13 : decode cX6_mayWeld 13 = .ok (.iload_n 2, 1) := by decide +kernel
theorem dX6_mayWeld_14 : decode cX6_mayWeld 14 = .ok (.aload_n 0, 1) := by decide +kernel
theorem dX6_mayWeld_15 : decode cX6_mayWeld 15 = .ok (.iload_n 3, 1) := by decide +kernel
theorem dX6_mayWeld_16 : decode cX6_mayWeld 16 = .ok (.invokevirtual 187, 3) := by decide +kernel
theorem dX6_mayWeld_19 : decode cX6_mayWeld 19 = .ok (.invokevirtual 196, 3) := by decide +kernel
theorem dX6_mayWeld_22 : decode cX6_mayWeld 22 = .ok (.ireturn, 1) := by decide +kernel
theorem dX6_weld_0 : decode cX6_weld 0 = .ok (.aload_n 0, 1) := by decide +kernel
theorem dX6_weld_1 : decode cX6_weld 1 = .ok (.iload_n 1, 1) := by decide +kernel
theorem dX6_weld_2 : decode cX6_weld 2 = .ok (.iload_n 2, 1) := by decide +kernel
theorem dX6_weld_3 : decode cX6_weld 3 = .ok (.invokevirtual 200, 3) := by decide +kernel
theorem dX6_weld_6 : decode cX6_weld 6 = .ok (.astore 4, 2) := by decide +kernel
theorem dX6_weld_8 : decode cX6_weld 8 = .ok (.aload_n 0, 1) := by decide +kernel
theorem dX6_weld_9 : decode cX6_weld 9 = .ok (.iload_n 3, 1) := by decide +kernel
theorem dX6_weld_10 : decode cX6_weld 10 = .ok (.invokevirtual 187, 3) := by decide +kernel
theorem dX6_weld_13 : decode cX6_weld 13 = .ok (.astore 5, 2) := by decide +kernel
theorem dX6_weld_15 : decode cX6_weld 15 = .ok (.aload 4, 2) := by decide +kernel
theorem dX6_weld_17 : decode cX6_weld 17 = .ok (.getfield 204, 3) := by decide +kernel
theorem dX6_weld_20 : decode cX6_weld 20 = .ok (.bipush 110, 2) := by decide +kernel
theorem dX6_weld_22 : decode cX6_weld 22 = .ok (.if_icmp .ne 19, 3) := by decide +kernel
theorem dX6_weld_25 : decode cX6_weld 25 = .ok (.aload_n 0, 1) := by decide +kernel
theorem dX6_weld_26 : decode cX6_weld 26 = .ok (.aload_n 0, 1) := by decide +kernel
theorem dX6_weld_27 : decode cX6_weld 27 = .ok (.getfield 11, 3) := by decide +kernel
theorem dX6_weld_30 : decode cX6_weld 30 = .ok (.iload_n 1, 1) := by decide +kernel
theorem dX6_weld_31 : decode cX6_weld 31 = .ok (.aaload, 1) := by decide +kernel
theorem dX6_weld_32 : decode cX6_weld 32 = .ok (.iload_n 2, 1) := by decide +kernel
theorem dX6_weld_33 : decode cX6_weld 33 = .ok (.aload 5, 2) := by decide +kernel
theorem dX6_weld_35 : decode cX6_weld 35 = .ok (.invokevirtual 196, 3) := by decide +kernel
theorem dX6_weld_38 : decode cX6_weld 38 = .ok (.ifCond .ne 13, 3) := by decide +kernel
theorem dX6_weld_41 : decode cX6_weld 41 = .ok (.new 93, 3) := by decide +kernel
theorem dX6_weld_44 : decode cX6_weld 44 = .ok (.dup, 1) := by decide +kernel
theorem dX6_weld_45 : decode cX6_weld 45 = .ok (.ldc 209, 2) := by decide +kernel
theorem dX6_weld_47 : decode cX6_weld 47 = .ok (.invokespecial 97, 3) := by decide +kernel
theorem dX6_weld_50 : decode cX6_weld 50 = .ok (.athrow, 1) := by decide +kernel
theorem dX6_weld_51 : decode cX6_weld 51 = .ok (.aload 4, 2) := by decide +kernel
theorem dX6_weld_53 : decode cX6_weld 53 = .ok (.aload 5, 2) := by decide +kernel
theorem dX6_weld_55 : decode cX6_weld 55 = .ok (.invokevirtual 211, 3) := by decide +kernel
theorem dX6_weld_58 : decode cX6_weld 58 = .ok (.aload_n 0, 1) := by decide +kernel
theorem dX6_weld_59 : decode cX6_weld 59 = .ok (.getfield 11, 3) := by decide +kernel
theorem dX6_weld_62 : decode cX6_weld 62 = .ok (.iload_n 1, 1) := by decide +kernel
theorem dX6_weld_63 : decode cX6_weld 63 = .ok (.aaload, 1) := by decide +kernel
theorem dX6_weld_64 : decode cX6_weld 64 = .ok (.iconst 0, 1) := by decide +kernel
theorem dX6_weld_65 : decode cX6_weld 65 = .ok (.putfield 101, 3) := by decide +kernel
theorem dX6_weld_68 : decode cX6_weld 68 = .ok (.aload_n 0, 1) := by decide +kernel
theorem dX6_weld_69 : decode cX6_weld 69 = .ok (.getfield 11, 3) := by decide +kernel
theorem dX6_weld_72 : decode cX6_weld 72 = .ok (.iload_n 1, 1) := by decide +kernel
theorem dX6_weld_73 : decode cX6_weld 73 = .ok (.aaload, 1) := by decide +kernel
theorem dX6_weld_74 : decode cX6_weld 74 = .ok (.invokevirtual 215, 3) := by decide +kernel
theorem dX6_weld_77 : decode cX6_weld 77 = .ok (.ireturn, 1) := by decide +kernel
theorem dX6_look_0 : decode cX6_look 0 = .ok (.aload_n 0, 1) := by decide +kernel
theorem dX6_look_1 : decode cX6_look 1 = .ok (.iload_n 1, 1) := by decide +kernel
theorem dX6_look_2 : decode cX6_look 2 = .ok (.iload_n 2, 1) := by decide +kernel
theorem dX6_look_3 : decode cX6_look 3 = .ok (.invokevirtual 200, 3) := by decide +kernel
theorem dX6_look_6 : decode cX6_look 6 = .ok (.astore 4, 2) := by decide +kernel
theorem dX6_look_8 : decode cX6_look 8 = .ok (.aload 4, 2) := by decide +kernel
theorem dX6_look_10 : decode cX6_look 10 = .ok (.getfield 204, 3) := by decide +kernel
theorem dX6_look_13 : decode cX6_look 13 = .ok (.bipush 119, 2) := by decide +kernel
theorem dX6_look_15 : decode cX6_look 15 = .ok (.if_icmp .ne 11, 3) := by decide +kernel
theorem dX6_look_18 : decode cX6_look 18 = .ok (.aload 4, 2) := by decide +kernel
theorem dX6_look_20 : decode cX6_look 20 = .ok (.getfield 218, 3) := by decide +kernel
theorem dX6_look_23 : decode cX6_look 23 = .ok (.ifnonnull 13, 3) := by decide +kernel
theorem dX6_look_26 : decode cX6_look 26 = .ok (.new 93, 3) := by decide +kernel
theorem dX6_look_29 : decode cX6_look 29 = .ok (.dup, 1) := by decide +kernel
theorem dX6_look_30 : decode cX6_look 30 = .ok (.ldc 222, 2) := by decide +kernel
theorem dX6_look_32 : decode cX6_look 32 = .ok (.invokespecial 97, 3) := by decide +kernel
theorem dX6_look_35 : decode cX6_look 35 = .ok (.athrow, 1) := by decide +kernel
theorem dX6_look_36 : decode cX6_look 36 = .ok (.aload 4, 2) := by decide +kernel
theorem dX6_look_38 : decode cX6_look 38 = .ok (.iload_n 3, 1) := by decide +kernel
theorem dX6_look_39 : decode cX6_look 39 = .ok (.ifCond .eq 8, 3) := by decide +kernel
theorem dX6_look_42 : decode cX6_look 42 = .ok (.bipush 103, 2) := by decide +kernel
theorem dX6_look_44 : decode cX6_look 44 = .ok (.goto 5, 3) := by decide +kernel
theorem dX6_look_47 : decode cX6_look 47 = .ok (.bipush 98, 2) := by decide +kernel
theorem dX6_look_49 : decode cX6_look 49 = .ok (.putfield 204, 3) := by decide +kernel
theorem dX6_look_52 : decode cX6_look 52 = .ok (.iload_n 3, 1) := by decide +kernel
theorem dX6_look_53 : decode cX6_look 53 = .ok (.ifCond .ne 42, 3) := by decide +kernel
theorem dX6_look_56 : decode cX6_look 56 = .ok (.aload 4, 2) := by decide +kernel
theorem dX6_look_58 : decode cX6_look 58 = .ok (.getfield 218, 3) := by decide +kernel
theorem dX6_look_61 : decode cX6_look 61 = .ok (.dup, 1) := by decide +kernel
theorem dX6_look_62 : decode cX6_look 62 = .ok (.getfield 224, 3) := by decide +kernel
theorem dX6_look_65 : decode cX6_look 65 = .ok (.iconst 1, 1) := by decide +kernel
theorem dX6_look_66 : decode cX6_look 66 = .ok (.iadd, 1) := by decide +kernel
theorem dX6_look_67 : decode cX6_look 67 = .ok (.putfield 224, 3) := by decide +kernel
theorem dX6_look_70 : decode cX6_look 70 = .ok (.aload_n 0, 1) := by decide +kernel
theorem dX6_look_71 : decode cX6_look 71 = .ok (.getfield 11, 3) := by decide +kernel
theorem dX6_look_74 : decode cX6_look 74 = .ok (.iload_n 1, 1) := by decide +kernel
theorem dX6_look_75 : decode cX6_look 75 = .ok (.aaload, 1) := by decide +kernel
theorem dX6_look_76 : decode cX6_look 76 = .ok (.dup, 1) := by decide +kernel
theorem dX6_look_77 : decode cX6_look 77 = .ok (.getfield 227, 3) := by decide +kernel
theorem dX6_look_80 : decode cX6_look 80 = .ok (.iconst 1, 1) := by decide +kernel
theorem dX6_look_81 : decode cX6_look 81 = .ok (.iadd, 1) := by decide +kernel
theorem dX6_look_82 : decode cX6_look 82 = .ok (.putfield 227, 3) := by decide +kernel
theorem dX6_look_85 : decode cX6_look 85 = .ok (.aload_n 0, 1) := by decide +kernel
theorem dX6_look_86 : decode cX6_look 86 = .ok (.getfield 11, 3) := by decide +kernel
theorem dX6_look_89 : decode cX6_look 89 = .ok (.iload_n 1, 1) := by decide +kernel
theorem dX6_look_90 : decode cX6_look 90 = .ok (.aaload, 1) := by decide +kernel
theorem dX6_look_91 : decode cX6_look 91 = .ok (.iconst 0, 1) := by decide +kernel
theorem dX6_look_92 : decode cX6_look 92 = .ok (.putfield 101, 3) := by decide +kernel
theorem dX6_look_95 : decode cX6_look 95 = .ok (.aload 4, 2) := by decide +kernel
theorem dX6_look_97 : decode cX6_look 97 = .ok (.getfield 204, 3) := by decide +kernel
theorem dX6_look_100 : decode cX6_look 100 = .ok (.ireturn, 1) := by decide +kernel
theorem dX6_repair_0 : decode cX6_repair 0 = .ok (.aload_n 0, 1) := by decide +kernel
theorem dX6_repair_1 : decode cX6_repair 1 = .ok (.iload_n 1, 1) := by decide +kernel
theorem dX6_repair_2 : decode cX6_repair 2 = .ok (.iload_n 2, 1) := by decide +kernel
theorem dX6_repair_3 : decode cX6_repair 3 = .ok (.invokevirtual 200, 3) := by decide +kernel
theorem dX6_repair_6 : decode cX6_repair 6 = .ok (.astore 4, 2) := by decide +kernel
theorem dX6_repair_8 : decode cX6_repair 8 = .ok (.aload_n 0, 1) := by decide +kernel
theorem dX6_repair_9 : decode cX6_repair 9 = .ok (.iload_n 3, 1) := by decide +kernel
theorem dX6_repair_10 : decode cX6_repair 10 = .ok (.invokevirtual 187, 3) := by decide +kernel
theorem dX6_repair_13 : decode cX6_repair 13 = .ok (.astore 5, 2) := by decide +kernel
theorem dX6_repair_15 : decode cX6_repair 15 = .ok (.aload 4, 2) := by decide +kernel
theorem dX6_repair_17 : decode cX6_repair 17 = .ok (.getfield 204, 3) := by decide +kernel
theorem dX6_repair_20 : decode cX6_repair 20 = .ok (.bipush 98, 2) := by decide +kernel
theorem dX6_repair_22 : decode cX6_repair 22 = .ok (.if_icmp .ne 28, 3) := by decide +kernel
theorem dX6_repair_25 : decode cX6_repair 25 = .ok (.aload 4, 2) := by decide +kernel
theorem dX6_repair_27 : decode cX6_repair 27 = .ok (.getfield 228, 3) := by decide +kernel
theorem dX6_repair_30 : decode cX6_repair 30 = .ok (.iconst 2, 1) := by decide +kernel
theorem dX6_repair_31 : decode cX6_repair 31 = .ok (.if_icmp .ge 19, 3) := by decide +kernel
theorem dX6_repair_34 : decode cX6_repair 34 = .ok (.aload_n 0, 1) := by decide +kernel
theorem dX6_repair_35 : decode cX6_repair 35 = .ok (.aload_n 0, 1) := by decide +kernel
theorem dX6_repair_36 : decode cX6_repair 36 = .ok (.getfield 11, 3) := by decide +kernel
theorem dX6_repair_39 : decode cX6_repair 39 = .ok (.iload_n 1, 1) := by decide +kernel
theorem dX6_repair_40 : decode cX6_repair 40 = .ok (.aaload, 1) := by decide +kernel
theorem dX6_repair_41 : decode cX6_repair 41 = .ok (.iload_n 2, 1) := by decide +kernel
theorem dX6_repair_42 : decode cX6_repair 42 = .ok (.aload 5, 2) := by decide +kernel
theorem dX6_repair_44 : decode cX6_repair 44 = .ok (.invokevirtual 196, 3) := by decide +kernel
theorem dX6_repair_47 : decode cX6_repair 47 = .ok (.ifCond .ne 13, 3) := by decide +kernel
theorem dX6_repair_50 : decode cX6_repair 50 = .ok (.new 93, 3) := by decide +kernel
theorem dX6_repair_53 : decode cX6_repair 53 = .ok (.dup, 1) := by decide +kernel
theorem dX6_repair_54 : decode cX6_repair 54 = .ok (.ldc 231, 2) := by decide +kernel
theorem dX6_repair_56 : decode cX6_repair 56 = .ok (.invokespecial 97, 3) := by decide +kernel
theorem dX6_repair_59 : decode cX6_repair 59 = .ok (.athrow, 1) := by decide +kernel
theorem dX6_repair_60 : decode cX6_repair 60 = .ok (.aload 4, 2) := by decide +kernel
theorem dX6_repair_62 : decode cX6_repair 62 = .ok (.aload 5, 2) := by decide +kernel
theorem dX6_repair_64 : decode cX6_repair 64 = .ok (.invokevirtual 211, 3) := by decide +kernel
theorem dX6_repair_67 : decode cX6_repair 67 = .ok (.aload 4, 2) := by decide +kernel
theorem dX6_repair_69 : decode cX6_repair 69 = .ok (.dup, 1) := by decide +kernel
theorem dX6_repair_70 : decode cX6_repair 70 = .ok (.getfield 228, 3) := by decide +kernel
theorem dX6_repair_73 : decode cX6_repair 73 = .ok (.iconst 1, 1) := by decide +kernel
theorem dX6_repair_74 : decode cX6_repair 74 = .ok (.iadd, 1) := by decide +kernel
theorem dX6_repair_75 : decode cX6_repair 75 = .ok (.putfield 228, 3) := by decide +kernel
theorem dX6_repair_78 : decode cX6_repair 78 = .ok (.aload_n 0, 1) := by decide +kernel
theorem dX6_repair_79 : decode cX6_repair 79 = .ok (.getfield 11, 3) := by decide +kernel
theorem dX6_repair_82 : decode cX6_repair 82 = .ok (.iload_n 1, 1) := by decide +kernel
theorem dX6_repair_83 : decode cX6_repair 83 = .ok (.aaload, 1) := by decide +kernel
theorem dX6_repair_84 : decode cX6_repair 84 = .ok (.iconst 0, 1) := by decide +kernel
theorem dX6_repair_85 : decode cX6_repair 85 = .ok (.putfield 101, 3) := by decide +kernel
theorem dX6_repair_88 : decode cX6_repair 88 = .ok (.aload 4, 2) := by decide +kernel
theorem dX6_repair_90 : decode cX6_repair 90 = .ok (.getfield 228, 3) := by decide +kernel
theorem dX6_repair_93 : decode cX6_repair 93 = .ok (.ireturn, 1) := by decide +kernel
theorem dX6_cutOut_0 : decode cX6_cutOut 0 = .ok (.aload_n 0, 1) := by decide +kernel
theorem dX6_cutOut_1 : decode cX6_cutOut 1 = .ok (.iload_n 1, 1) := by decide +kernel
theorem dX6_cutOut_2 : decode cX6_cutOut 2 = .ok (.iload_n 2, 1) := by decide +kernel
theorem dX6_cutOut_3 : decode cX6_cutOut 3 = .ok (.invokevirtual 200, 3) := by decide +kernel
theorem dX6_cutOut_6 : decode cX6_cutOut 6 = .ok (.astore_n 3, 1) := by decide +kernel
theorem dX6_cutOut_7 : decode cX6_cutOut 7 = .ok (.aload_n 3, 1) := by decide +kernel
theorem dX6_cutOut_8 : decode cX6_cutOut 8 = .ok (.getfield 204, 3) := by decide +kernel
theorem dX6_cutOut_11 : decode cX6_cutOut 11 = .ok (.bipush 98, 2) := by decide +kernel
theorem dX6_cutOut_13 : decode cX6_cutOut 13 = .ok (.if_icmp .ne 11, 3) := by decide +kernel
theorem dX6_cutOut_16 : decode cX6_cutOut 16 = .ok (.aload_n 3, 1) := by decide +kernel
theorem dX6_cutOut_17 : decode cX6_cutOut 17 = .ok (.getfield 228, 3) := by decide +kernel
theorem dX6_cutOut_20 : decode cX6_cutOut 20 = .ok (.iconst 2, 1) := by decide +kernel
theorem dX6_cutOut_21 : decode cX6_cutOut 21 = .ok (.if_icmp .ge 13, 3) := by decide +kernel
theorem dX6_cutOut_24 : decode cX6_cutOut 24 = .ok (.new 93, 3) := by decide +kernel
theorem dX6_cutOut_27 : decode cX6_cutOut 27 = .ok (.dup, 1) := by decide +kernel
theorem dX6_cutOut_28 : decode cX6_cutOut 28 = .ok (.ldc 233, 2) := by decide +kernel
theorem dX6_cutOut_30 : decode cX6_cutOut 30 = .ok (.invokespecial 97, 3) := by decide +kernel
theorem dX6_cutOut_33 : decode cX6_cutOut 33 = .ok (.athrow, 1) := by decide +kernel
theorem dX6_cutOut_34 : decode cX6_cutOut 34 = .ok (.aload_n 3, 1) := by decide +kernel
theorem dX6_cutOut_35 : decode cX6_cutOut 35 = .ok (.invokevirtual 235, 3) := by decide +kernel
theorem dX6_cutOut_38 : decode cX6_cutOut 38 = .ok (.aload_n 0, 1) := by decide +kernel
theorem dX6_cutOut_39 : decode cX6_cutOut 39 = .ok (.getfield 11, 3) := by decide +kernel
theorem dX6_cutOut_42 : decode cX6_cutOut 42 = .ok (.iload_n 1, 1) := by decide +kernel
theorem dX6_cutOut_43 : decode cX6_cutOut 43 = .ok (.aaload, 1) := by decide +kernel
theorem dX6_cutOut_44 : decode cX6_cutOut 44 = .ok (.iconst 0, 1) := by decide +kernel
theorem dX6_cutOut_45 : decode cX6_cutOut 45 = .ok (.putfield 101, 3) := by decide +kernel
theorem dX6_cutOut_48 : decode cX6_cutOut 48 = .ok (.aload_n 0, 1) := by decide +kernel
theorem dX6_cutOut_49 : decode cX6_cutOut 49 = .ok (.dup, 1) := by decide +kernel
theorem dX6_cutOut_50 : decode cX6_cutOut 50 = .ok (.getfield 238, 3) := by decide +kernel
theorem dX6_cutOut_53 : decode cX6_cutOut 53 = .ok (.iconst 1, 1) := by decide +kernel
theorem dX6_cutOut_54 : decode cX6_cutOut 54 = .ok (.iadd, 1) := by decide +kernel
theorem dX6_cutOut_55 : decode cX6_cutOut 55 = .ok (.putfield 238, 3) := by decide +kernel
theorem dX6_cutOut_58 : decode cX6_cutOut 58 = .ok (.aload_n 0, 1) := by decide +kernel
theorem dX6_cutOut_59 : decode cX6_cutOut 59 = .ok (.getfield 238, 3) := by decide +kernel
theorem dX6_cutOut_62 : decode cX6_cutOut 62 = .ok (.ireturn, 1) := by decide +kernel
theorem dX6_joint_0 : decode cX6_joint 0 = .ok (.aload_n 0, 1) := by decide +kernel
theorem dX6_joint_1 : decode cX6_joint 1 = .ok (.iload_n 1, 1) := by decide +kernel
theorem dX6_joint_2 : decode cX6_joint 2 = .ok (.iload_n 2, 1) := by decide +kernel
theorem dX6_joint_3 : decode cX6_joint 3 = .ok (.invokevirtual 200, 3) := by decide +kernel
theorem dX6_joint_6 : decode cX6_joint 6 = .ok (.getfield 204, 3) := by decide +kernel
theorem dX6_joint_9 : decode cX6_joint 9 = .ok (.ireturn, 1) := by decide +kernel
theorem dX6_welderOf_0 : decode cX6_welderOf 0 = .ok (.aload_n 0, 1) := by decide +kernel
theorem dX6_welderOf_1 : decode cX6_welderOf 1 = .ok (.iload_n 1, 1) := by decide +kernel
theorem dX6_welderOf_2 : decode cX6_welderOf 2 = .ok (.iload_n 2, 1) := by decide +kernel
theorem dX6_welderOf_3 : decode cX6_welderOf 3 = .ok (.invokevirtual 200, 3) := by decide +kernel
theorem dX6_welderOf_6 : decode cX6_welderOf 6 = .ok (.getfield 218, 3) := by decide +kernel
theorem dX6_welderOf_9 : decode cX6_welderOf 9 = .ok (.astore_n 3, 1) := by decide +kernel
theorem dX6_welderOf_10 : decode cX6_welderOf 10 = .ok (.aload_n 3, 1) := by decide +kernel
theorem dX6_welderOf_11 : decode cX6_welderOf 11 = .ok (.ifnonnull 13, 3) := by decide +kernel
theorem dX6_welderOf_14 : decode cX6_welderOf 14 = .ok (.new 169, 3) := by decide +kernel
theorem dX6_welderOf_17 : decode cX6_welderOf 17 = .ok (.dup, 1) := by decide +kernel
theorem dX6_welderOf_18 : decode cX6_welderOf 18 = .ok (.ldc 241, 2) := by decide +kernel
theorem dX6_welderOf_20 : decode cX6_welderOf 20 = .ok (.invokespecial 173, 3) := by decide +kernel
theorem dX6_welderOf_23 : decode cX6_welderOf 23 = .ok (.athrow, 1) := by decide +kernel
theorem dX6_welderOf_24 : decode cX6_welderOf 24 = .ok (.aload_n 3, 1) := by decide +kernel
theorem dX6_welderOf_25 : decode cX6_welderOf 25 = .ok (.getfield 243, 3) := by decide +kernel
theorem dX6_welderOf_28 : decode cX6_welderOf 28 = .ok (.ireturn, 1) := by decide +kernel
theorem dX6_toLook_0 : decode cX6_toLook 0 = .ok (.aload_n 0, 1) := by decide +kernel
theorem dX6_toLook_1 : decode cX6_toLook 1 = .ok (.iload_n 1, 1) := by decide +kernel
theorem dX6_toLook_2 : decode cX6_toLook 2 = .ok (.invokevirtual 59, 3) := by decide +kernel
theorem dX6_toLook_5 : decode cX6_toLook 5 = .ok (.invokevirtual 244, 3) := by decide +kernel
theorem dX6_toLook_8 : decode cX6_toLook 8 = .ok (.ireturn, 1) := by decide +kernel
theorem dX6_failed_0 : decode cX6_failed 0 = .ok (.aload_n 0, 1) := by decide +kernel
theorem dX6_failed_1 : decode cX6_failed 1 = .ok (.iload_n 1, 1) := by decide +kernel
theorem dX6_failed_2 : decode cX6_failed 2 = .ok (.invokevirtual 187, 3) := by decide +kernel
theorem dX6_failed_5 : decode cX6_failed 5 = .ok (.getfield 224, 3) := by decide +kernel
theorem dX6_failed_8 : decode cX6_failed 8 = .ok (.ireturn, 1) := by decide +kernel
theorem dX6_pass_0 : decode cX6_pass 0 = .ok (.iload_n 1, 1) := by decide +kernel
theorem dX6_pass_1 : decode cX6_pass 1 = .ok (.iconst 1, 1) := by decide +kernel
theorem dX6_pass_2 : decode cX6_pass 2 = .ok (.if_icmp .lt 9, 3) := by decide +kernel
theorem dX6_pass_5 : decode cX6_pass 5 = .ok (.iload_n 1, 1) := by decide +kernel
theorem dX6_pass_6 : decode cX6_pass 6 = .ok (.bipush 99, 2) := by decide +kernel
theorem dX6_pass_8 : decode cX6_pass 8 = .ok (.if_icmp .le 13, 3) := by decide +kernel
theorem dX6_pass_11 : decode cX6_pass 11 = .ok (.new 36, 3) := by decide +kernel
theorem dX6_pass_14 : decode cX6_pass 14 = .ok (.dup, 1) := by decide +kernel
theorem dX6_pass_15 : decode cX6_pass 15 = .ok (.ldc 247, 2) := by decide +kernel
theorem dX6_pass_17 : decode cX6_pass 17 = .ok (.invokespecial 40, 3) := by decide +kernel
theorem dX6_pass_20 : decode cX6_pass 20 = .ok (.athrow, 1) := by decide +kernel
theorem dX6_pass_21 : decode cX6_pass 21 = .ok (.aload_n 0, 1) := by decide +kernel
theorem dX6_pass_22 : decode cX6_pass 22 = .ok (.getfield 249, 3) := by decide +kernel
theorem dX6_pass_25 : decode cX6_pass 25 = .ok (.iload_n 1, 1) := by decide +kernel
theorem dX6_pass_26 : decode cX6_pass 26 = .ok (.iadd, 1) := by decide +kernel
theorem dX6_pass_27 : decode cX6_pass 27 = .ok (.sipush 999, 3) := by decide +kernel
theorem dX6_pass_30 : decode cX6_pass 30 = .ok (.if_icmp .le 13, 3) := by decide +kernel
theorem dX6_pass_33 : decode cX6_pass 33 = .ok (.new 47, 3) := by decide +kernel
theorem dX6_pass_36 : decode cX6_pass 36 = .ok (.dup, 1) := by decide +kernel
theorem dX6_pass_37 : decode cX6_pass 37 = .ok (.ldc 252, 2) := by decide +kernel
theorem dX6_pass_39 : decode cX6_pass 39 = .ok (.invokespecial 51, 3) := by decide +kernel
theorem dX6_pass_42 : decode cX6_pass 42 = .ok (.athrow, 1) := by decide +kernel
theorem dX6_pass_43 : decode cX6_pass 43 = .ok (.aload_n 0, 1) := by decide +kernel
theorem dX6_pass_44 : decode cX6_pass 44 = .ok (.dup, 1) := by decide +kernel
theorem dX6_pass_45 : decode cX6_pass 45 = .ok (.getfield 249, 3) := by decide +kernel
theorem dX6_pass_48 : decode cX6_pass 48 = .ok (.iload_n 1, 1) := by decide +kernel
theorem dX6_pass_49 : decode cX6_pass 49 = .ok (.iadd, 1) := by decide +kernel
theorem dX6_pass_50 : decode cX6_pass 50 = .ok (.putfield 249, 3) := by decide +kernel
theorem dX6_pass_53 : decode cX6_pass 53 = .ok (.aload_n 0, 1) := by decide +kernel
theorem dX6_pass_54 : decode cX6_pass 54 = .ok (.getfield 249, 3) := by decide +kernel
theorem dX6_pass_57 : decode cX6_pass 57 = .ok (.ireturn, 1) := by decide +kernel
theorem dX6_join_0 : decode cX6_join 0 = .ok (.aload_n 0, 1) := by decide +kernel
theorem dX6_join_1 : decode cX6_join 1 = .ok (.iload_n 1, 1) := by decide +kernel
theorem dX6_join_2 : decode cX6_join 2 = .ok (.invokevirtual 59, 3) := by decide +kernel
theorem dX6_join_5 : decode cX6_join 5 = .ok (.iload_n 2, 1) := by decide +kernel
theorem dX6_join_6 : decode cX6_join 6 = .ok (.invokevirtual 254, 3) := by decide +kernel
theorem dX6_join_9 : decode cX6_join 9 = .ok (.astore 5, 2) := by decide +kernel
theorem dX6_join_11 : decode cX6_join 11 = .ok (.aload_n 0, 1) := by decide +kernel
theorem dX6_join_12 : decode cX6_join 12 = .ok (.iload_n 3, 1) := by decide +kernel
theorem dX6_join_13 : decode cX6_join 13 = .ok (.invokevirtual 59, 3) := by decide +kernel
theorem dX6_join_16 : decode cX6_join 16 = .ok (.iload 4, 2) := by decide +kernel
theorem dX6_join_18 : decode cX6_join 18 = .ok (.invokevirtual 254, 3) := by decide +kernel
theorem dX6_join_21 : decode cX6_join 21 = .ok (.astore 6, 2) := by decide +kernel
theorem dX6_join_23 : decode cX6_join 23 = .ok (.iload_n 1, 1) := by decide +kernel
theorem dX6_join_24 : decode cX6_join 24 = .ok (.iload_n 3, 1) := by decide +kernel
theorem dX6_join_25 : decode cX6_join 25 = .ok (.if_icmp .ne 14, 3) := by decide +kernel
theorem dX6_join_28 : decode cX6_join 28 = .ok (.new 36, 3) := by decide +kernel
theorem dX6_join_31 : decode cX6_join 31 = .ok (.dup, 1) := by decide +kernel
theorem dX6_join_32 : decode cX6_join 32 = .ok (.ldc_w 258, 3) := by decide +kernel
theorem dX6_join_35 : decode cX6_join 35 = .ok (.invokespecial 40, 3) := by decide +kernel
theorem dX6_join_38 : decode cX6_join 38 = .ok (.athrow, 1) := by decide +kernel
theorem dX6_join_39 : decode cX6_join 39 = .ok (.aload 5, 2) := by decide +kernel
theorem dX6_join_41 : decode cX6_join 41 = .ok (.getfield 260, 3) := by decide +kernel
theorem dX6_join_44 : decode cX6_join 44 = .ok (.aload 6, 2) := by decide +kernel
theorem dX6_join_46 : decode cX6_join 46 = .ok (.if_acmp .ne 7, 3) := by decide +kernel
theorem dX6_join_49 : decode cX6_join 49 = .ok (.iconst 1, 1) := by decide +kernel
theorem dX6_join_50 : decode cX6_join 50 = .ok (.goto 4, 3) := by decide +kernel
theorem dX6_join_53 : decode cX6_join 53 = .ok (.iconst 0, 1) := by decide +kernel
theorem dX6_join_54 : decode cX6_join 54 = .ok (.istore 7, 2) := by decide +kernel
theorem dX6_join_56 : decode cX6_join 56 = .ok (.iload 7, 2) := by decide +kernel
theorem dX6_join_58 : decode cX6_join 58 = .ok (.ifCond .ne 30, 3) := by decide +kernel
theorem dX6_join_61 : decode cX6_join 61 = .ok (.aload 5, 2) := by decide +kernel
theorem dX6_join_63 : decode cX6_join 63 = .ok (.invokevirtual 266, 3) := by decide +kernel
theorem dX6_join_66 : decode cX6_join 66 = .ok (.ifCond .eq 11, 3) := by decide +kernel
theorem dX6_join_69 : decode cX6_join 69 = .ok (.aload 6, 2) := by decide +kernel
theorem dX6_join_71 : decode cX6_join 71 = .ok (.invokevirtual 266, 3) := by decide +kernel
theorem dX6_join_74 : decode cX6_join 74 = .ok (.ifCond .ne 14, 3) := by decide +kernel
theorem dX6_join_77 : decode cX6_join 77 = .ok (.new 93, 3) := by decide +kernel
theorem dX6_join_80 : decode cX6_join 80 = .ok (.dup, 1) := by decide +kernel
theorem dX6_join_81 : decode cX6_join 81 = .ok (.ldc_w 270, 3) := by decide +kernel
theorem dX6_join_84 : decode cX6_join 84 = .ok (.invokespecial 97, 3) := by decide +kernel
theorem dX6_join_87 : decode cX6_join 87 = .ok (.athrow, 1) := by decide +kernel
theorem dX6_join_88 : decode cX6_join 88 = .ok (.aload 5, 2) := by decide +kernel
theorem dX6_join_90 : decode cX6_join 90 = .ok (.iload 7, 2) := by decide +kernel
theorem dX6_join_92 : decode cX6_join 92 = .ok (.ifCond .eq 7, 3) := by decide +kernel
theorem dX6_join_95 : decode cX6_join 95 = .ok (.aconst_null, 1) := by decide +kernel
theorem dX6_join_96 : decode cX6_join 96 = .ok (.goto 5, 3) := by decide +kernel
theorem dX6_join_99 : decode cX6_join 99 = .ok (.aload 6, 2) := by decide +kernel
theorem dX6_join_101 : decode cX6_join 101 = .ok (.putfield 260, 3) := by decide +kernel
theorem dX6_join_104 : decode cX6_join 104 = .ok (.aload 6, 2) := by decide +kernel
theorem dX6_join_106 : decode cX6_join 106 = .ok (.iload 7, 2) := by decide +kernel
theorem dX6_join_108 : decode cX6_join 108 = .ok (.ifCond .eq 7, 3) := by decide +kernel
theorem dX6_join_111 : decode cX6_join 111 = .ok (.aconst_null, 1) := by decide +kernel
theorem dX6_join_112 : decode cX6_join 112 = .ok (.goto 5, 3) := by decide +kernel
theorem dX6_join_115 : decode cX6_join 115 = .ok (.aload 5, 2) := by decide +kernel
theorem dX6_join_117 : decode cX6_join 117 = .ok (.putfield 260, 3) := by decide +kernel
theorem dX6_join_120 : decode cX6_join 120 = .ok (.aload_n 0, 1) := by decide +kernel
theorem dX6_join_121 : decode cX6_join 121 = .ok (.getfield 11, 3) := by decide +kernel
theorem dX6_join_124 : decode cX6_join 124 = .ok (.iload_n 1, 1) := by decide +kernel
theorem dX6_join_125 : decode cX6_join 125 = .ok (.aaload, 1) := by decide +kernel
theorem dX6_join_126 : decode cX6_join 126 = .ok (.iconst 0, 1) := by decide +kernel
theorem dX6_join_127 : decode cX6_join 127 = .ok (.putfield 101, 3) := by decide +kernel
theorem dX6_join_130 : decode cX6_join 130 = .ok (.aload_n 0, 1) := by decide +kernel
theorem dX6_join_131 : decode cX6_join 131 = .ok (.getfield 11, 3) := by decide +kernel
theorem dX6_join_134 : decode cX6_join 134 = .ok (.iload_n 3, 1) := by decide +kernel
theorem dX6_join_135 : decode cX6_join 135 = .ok (.aaload, 1) := by decide +kernel
theorem dX6_join_136 : decode cX6_join 136 = .ok (.iconst 0, 1) := by decide +kernel
theorem dX6_join_137 : decode cX6_join 137 = .ok (.putfield 101, 3) := by decide +kernel
theorem dX6_join_140 : decode cX6_join 140 = .ok (.iload 7, 2) := by decide +kernel
theorem dX6_join_142 : decode cX6_join 142 = .ok (.ifCond .ne 7, 3) := by decide +kernel
theorem dX6_join_145 : decode cX6_join 145 = .ok (.iconst 1, 1) := by decide +kernel
theorem dX6_join_146 : decode cX6_join 146 = .ok (.goto 4, 3) := by decide +kernel
theorem dX6_join_149 : decode cX6_join 149 = .ok (.iconst 0, 1) := by decide +kernel
theorem dX6_join_150 : decode cX6_join 150 = .ok (.ireturn, 1) := by decide +kernel
theorem dX6_blind_0 : decode cX6_blind 0 = .ok (.aload_n 0, 1) := by decide +kernel
theorem dX6_blind_1 : decode cX6_blind 1 = .ok (.iload_n 1, 1) := by decide +kernel
theorem dX6_blind_2 : decode cX6_blind 2 = .ok (.invokevirtual 59, 3) := by decide +kernel
theorem dX6_blind_5 : decode cX6_blind 5 = .ok (.iload_n 2, 1) := by decide +kernel
theorem dX6_blind_6 : decode cX6_blind 6 = .ok (.invokevirtual 254, 3) := by decide +kernel
theorem dX6_blind_9 : decode cX6_blind 9 = .ok (.astore 4, 2) := by decide +kernel
theorem dX6_blind_11 : decode cX6_blind 11 = .ok (.iload_n 3, 1) := by decide +kernel
theorem dX6_blind_12 : decode cX6_blind 12 = .ok (.ifCond .eq 22, 3) := by decide +kernel
theorem dX6_blind_15 : decode cX6_blind 15 = .ok (.aload 4, 2) := by decide +kernel
theorem dX6_blind_17 : decode cX6_blind 17 = .ok (.getfield 260, 3) := by decide +kernel
theorem dX6_blind_20 : decode cX6_blind 20 = .ok (.ifnull 14, 3) := by decide +kernel
theorem dX6_blind_23 : decode cX6_blind 23 = .ok (.new 93, 3) := by decide +kernel
theorem dX6_blind_26 : decode cX6_blind 26 = .ok (.dup, 1) := by decide +kernel
theorem dX6_blind_27 : decode cX6_blind 27 = .ok (.ldc_w 272, 3) := by decide +kernel
theorem dX6_blind_30 : decode cX6_blind 30 = .ok (.invokespecial 97, 3) := by decide +kernel
theorem dX6_blind_33 : decode cX6_blind 33 = .ok (.athrow, 1) := by decide +kernel
theorem dX6_blind_34 : decode cX6_blind 34 = .ok (.aload 4, 2) := by decide +kernel
theorem dX6_blind_36 : decode cX6_blind 36 = .ok (.getfield 274, 3) := by decide +kernel
theorem dX6_blind_39 : decode cX6_blind 39 = .ok (.istore 5, 2) := by decide +kernel
theorem dX6_blind_41 : decode cX6_blind 41 = .ok (.aload 4, 2) := by decide +kernel
theorem dX6_blind_43 : decode cX6_blind 43 = .ok (.iload_n 3, 1) := by decide +kernel
theorem dX6_blind_44 : decode cX6_blind 44 = .ok (.putfield 274, 3) := by decide +kernel
theorem dX6_blind_47 : decode cX6_blind 47 = .ok (.iload 5, 2) := by decide +kernel
theorem dX6_blind_49 : decode cX6_blind 49 = .ok (.ireturn, 1) := by decide +kernel
theorem dX6_addCircuit_0 : decode cX6_addCircuit 0 = .ok (.iload_n 1, 1) := by decide +kernel
theorem dX6_addCircuit_1 : decode cX6_addCircuit 1 = .ok (.iconst 1, 1) := by decide +kernel
theorem dX6_addCircuit_2 : decode cX6_addCircuit 2 = .ok (.if_icmp .lt 18, 3) := by decide +kernel
theorem dX6_addCircuit_5 : decode cX6_addCircuit 5 = .ok (.iload_n 1, 1) := by decide +kernel
theorem dX6_addCircuit_6 : decode cX6_addCircuit 6 = .ok (.bipush 15, 2) := by decide +kernel
theorem dX6_addCircuit_8 : decode cX6_addCircuit 8 = .ok (.if_icmp .gt 12, 3) := by decide +kernel
theorem dX6_addCircuit_11 : decode cX6_addCircuit 11 = .ok (.iload_n 1, 1) := by decide +kernel
theorem dX6_addCircuit_12 : decode cX6_addCircuit 12 = .ok (.aload_n 0, 1) := by decide +kernel
theorem dX6_addCircuit_13 : decode cX6_addCircuit 13 = .ok (.getfield 43, 3) := by decide +kernel
theorem dX6_addCircuit_16 : decode cX6_addCircuit 16 = .ok (.ishr, 1) := by decide +kernel
theorem dX6_addCircuit_17 : decode cX6_addCircuit 17 = .ok (.ifCond .eq 14, 3) := by decide +kernel
theorem dX6_addCircuit_20 : decode cX6_addCircuit 20 = .ok (.new 36, 3) := by decide +kernel
theorem dX6_addCircuit_23 : decode cX6_addCircuit 23 = .ok (.dup, 1) := by decide +kernel
theorem dX6_addCircuit_24 : decode cX6_addCircuit 24 = .ok (.ldc_w 277, 3) := by decide +kernel
theorem dX6_addCircuit_27 : decode cX6_addCircuit 27 = .ok (.invokespecial 40, 3) := by decide +kernel
theorem dX6_addCircuit_30 : decode cX6_addCircuit 30 = .ok (.athrow, 1) := by decide +kernel
theorem dX6_addCircuit_31 : decode cX6_addCircuit 31 = .ok (.aload_n 0, 1) := by decide +kernel
theorem dX6_addCircuit_32 : decode cX6_addCircuit 32 = .ok (.getfield 279, 3) := by decide +kernel
theorem dX6_addCircuit_35 : decode cX6_addCircuit 35 = .ok (.bipush 6, 2) := by decide +kernel
theorem dX6_addCircuit_37 : decode cX6_addCircuit 37 = .ok (.if_icmp .lt 14, 3) := by decide +kernel
theorem dX6_addCircuit_40 : decode cX6_addCircuit 40 = .ok (.new 47, 3) := by decide +kernel
theorem dX6_addCircuit_43 : decode cX6_addCircuit 43 = .ok (.dup, 1) := by decide +kernel
theorem dX6_addCircuit_44 : decode cX6_addCircuit 44 = .ok (.ldc_w 282, 3) := by decide +kernel
theorem dX6_addCircuit_47 : decode cX6_addCircuit 47 = .ok (.invokespecial 51, 3) := by decide +kernel
theorem dX6_addCircuit_50 : decode cX6_addCircuit 50 = .ok (.athrow, 1) := by decide +kernel
theorem dX6_addCircuit_51 : decode cX6_addCircuit 51 = .ok (.aload_n 0, 1) := by decide +kernel
theorem dX6_addCircuit_52 : decode cX6_addCircuit 52 = .ok (.getfield 27, 3) := by decide +kernel
theorem dX6_addCircuit_55 : decode cX6_addCircuit 55 = .ok (.aload_n 0, 1) := by decide +kernel
theorem dX6_addCircuit_56 : decode cX6_addCircuit 56 = .ok (.getfield 279, 3) := by decide +kernel
theorem dX6_addCircuit_59 : decode cX6_addCircuit 59 = .ok (.iload_n 1, 1) := by decide +kernel
theorem dX6_addCircuit_60 : decode cX6_addCircuit 60 = .ok (.iastore, 1) := by decide +kernel
theorem dX6_addCircuit_61 : decode cX6_addCircuit 61 = .ok (.aload_n 0, 1) := by decide +kernel
theorem dX6_addCircuit_62 : decode cX6_addCircuit 62 = .ok (.dup, 1) := by decide +kernel
theorem dX6_addCircuit_63 : decode cX6_addCircuit 63 = .ok (.getfield 279, 3) := by decide +kernel
theorem dX6_addCircuit_66 : decode cX6_addCircuit 66 = .ok (.iconst 1, 1) := by decide +kernel
theorem dX6_addCircuit_67 : decode cX6_addCircuit 67 = .ok (.iadd, 1) := by decide +kernel
theorem dX6_addCircuit_68 : decode cX6_addCircuit 68 = .ok (.putfield 279, 3) := by decide +kernel
theorem dX6_addCircuit_71 : decode cX6_addCircuit 71 = .ok (.aload_n 0, 1) := by decide +kernel
theorem dX6_addCircuit_72 : decode cX6_addCircuit 72 = .ok (.getfield 279, 3) := by decide +kernel
theorem dX6_addCircuit_75 : decode cX6_addCircuit 75 = .ok (.iconst 1, 1) := by decide +kernel
theorem dX6_addCircuit_76 : decode cX6_addCircuit 76 = .ok (.isub, 1) := by decide +kernel
theorem dX6_addCircuit_77 : decode cX6_addCircuit 77 = .ok (.ireturn, 1) := by decide +kernel
theorem dX6_open_0 : decode cX6_open 0 = .ok (.aload_n 0, 1) := by decide +kernel
theorem dX6_open_1 : decode cX6_open 1 = .ok (.aload_n 0, 1) := by decide +kernel
theorem dX6_open_2 : decode cX6_open 2 = .ok (.iload_n 1, 1) := by decide +kernel
theorem dX6_open_3 : decode cX6_open 3 = .ok (.invokevirtual 284, 3) := by decide +kernel
theorem dX6_open_6 : decode cX6_open 6 = .ok (.invokevirtual 287, 3) := by decide +kernel
theorem dX6_open_9 : decode cX6_open 9 = .ok (.ireturn, 1) := by decide +kernel
theorem dX6_canTest_0 : decode cX6_canTest 0 = .ok (.aload_n 0, 1) := by decide +kernel
theorem dX6_canTest_1 : decode cX6_canTest 1 = .ok (.aload_n 0, 1) := by decide +kernel
theorem dX6_canTest_2 : decode cX6_canTest 2 = .ok (.iload_n 1, 1) := by decide +kernel
theorem dX6_canTest_3 : decode cX6_canTest 3 = .ok (.invokevirtual 284, 3) := by decide +kernel
theorem dX6_canTest_6 : decode cX6_canTest 6 = .ok (.invokevirtual 290, 3) := by decide +kernel
theorem dX6_canTest_9 : decode cX6_canTest 9 = .ok (.ireturn, 1) := by decide +kernel
theorem dX6_testAll_0 : decode cX6_testAll 0 = .ok (.aload_n 0, 1) := by decide +kernel
theorem dX6_testAll_1 : decode cX6_testAll 1 = .ok (.iload_n 1, 1) := by decide +kernel
theorem dX6_testAll_2 : decode cX6_testAll 2 = .ok (.invokevirtual 284, 3) := by decide +kernel
theorem dX6_testAll_5 : decode cX6_testAll 5 = .ok (.istore_n 2, 1) := by decide +kernel
theorem dX6_testAll_6 : decode cX6_testAll 6 = .ok (.aload_n 0, 1) := by decide +kernel
theorem dX6_testAll_7 : decode cX6_testAll 7 = .ok (.iload_n 2, 1) := by decide +kernel
theorem dX6_testAll_8 : decode cX6_testAll 8 = .ok (.invokevirtual 290, 3) := by decide +kernel
theorem dX6_testAll_11 : decode cX6_testAll 11 = .ok (.ifCond .ne 14, 3) := by decide +kernel
theorem dX6_testAll_14 : decode cX6_testAll 14 = .ok (.new 93, 3) := by decide +kernel
theorem dX6_testAll_17 : decode cX6_testAll 17 = .ok (.dup, 1) := by decide +kernel
theorem dX6_testAll_18 : decode cX6_testAll 18 = .ok (.ldc_w 293, 3) := by decide +kernel
theorem dX6_testAll_21 : decode cX6_testAll 21 = .ok (.invokespecial 97, 3) := by decide +kernel
theorem dX6_testAll_24 : decode cX6_testAll 24 = .ok (.athrow, 1) := by decide +kernel
theorem dX6_testAll_25 : decode cX6_testAll 25 = .ok (.iconst 0, 1) := by decide +kernel
theorem dX6_testAll_26 : decode cX6_testAll 26 = .ok (.istore_n 3, 1) := by decide +kernel
theorem dX6_testAll_27 : decode cX6_testAll 27 = .ok (.iconst 0, 1) := by decide +kernel
theorem dX6_testAll_28 : decode cX6_testAll 28 = .ok (.istore 4, 2) := by decide +kernel
theorem dX6_testAll_30 : decode cX6_testAll 30 = .ok (.iload 4, 2) := by decide +kernel
theorem dX6_testAll_32 : decode cX6_testAll 32 = .ok (.aload_n 0, 1) := by decide +kernel
theorem dX6_testAll_33 : decode cX6_testAll 33 = .ok (.getfield 43, 3) := by decide +kernel
theorem dX6_testAll_36 : decode cX6_testAll 36 = .ok (.if_icmp .ge 45, 3) := by decide +kernel
theorem dX6_testAll_39 : decode cX6_testAll 39 = .ok (.iload_n 2, 1) := by decide +kernel
theorem dX6_testAll_40 : decode cX6_testAll 40 = .ok (.iload 4, 2) := by decide +kernel
theorem dX6_testAll_42 : decode cX6_testAll 42 = .ok (.invokestatic 295, 3) := by decide +kernel
theorem dX6_testAll_45 : decode cX6_testAll 45 = .ok (.ifCond .eq 14, 3) := by decide +kernel
theorem dX6_testAll_48 : decode cX6_testAll 48 = .ok (.aload_n 0, 1) := by decide +kernel
theorem dX6_testAll_49 : decode cX6_testAll 49 = .ok (.getfield 11, 3) := by decide +kernel
theorem dX6_testAll_52 : decode cX6_testAll 52 = .ok (.iload 4, 2) := by decide +kernel
theorem dX6_testAll_54 : decode cX6_testAll 54 = .ok (.aaload, 1) := by decide +kernel
theorem dX6_testAll_55 : decode cX6_testAll 55 = .ok (.iconst 1, 1) := by decide +kernel
theorem dX6_testAll_56 : decode cX6_testAll 56 = .ok (.putfield 101, 3) := by decide +kernel
theorem dX6_testAll_59 : decode cX6_testAll 59 = .ok (.aload_n 0, 1) := by decide +kernel
theorem dX6_testAll_60 : decode cX6_testAll 60 = .ok (.getfield 11, 3) := by decide +kernel
theorem dX6_testAll_63 : decode cX6_testAll 63 = .ok (.iload 4, 2) := by decide +kernel
theorem dX6_testAll_65 : decode cX6_testAll 65 = .ok (.aaload, 1) := by decide +kernel
theorem dX6_testAll_66 : decode cX6_testAll 66 = .ok (.getfield 101, 3) := by decide +kernel
theorem dX6_testAll_69 : decode cX6_testAll 69 = .ok (.ifCond .eq 6, 3) := by decide +kernel
theorem dX6_testAll_72 : decode cX6_testAll 72 = .ok (.iinc 3 1, 3) := by decide +kernel
theorem dX6_testAll_75 : decode cX6_testAll 75 = .ok (.iinc 4 1, 3) := by decide +kernel
theorem dX6_testAll_78 : decode cX6_testAll 78 = .ok (.goto (-48), 3) := by decide +kernel
theorem dX6_testAll_81 : decode cX6_testAll 81 = .ok (.iload_n 3, 1) := by decide +kernel
theorem dX6_testAll_82 : decode cX6_testAll 82 = .ok (.ireturn, 1) := by decide +kernel
theorem dX6_isTested_0 : decode cX6_isTested 0 = .ok (.aload_n 0, 1) := by decide +kernel
theorem dX6_isTested_1 : decode cX6_isTested 1 = .ok (.iload_n 1, 1) := by decide +kernel
theorem dX6_isTested_2 : decode cX6_isTested 2 = .ok (.invokevirtual 59, 3) := by decide +kernel
theorem dX6_isTested_5 : decode cX6_isTested 5 = .ok (.getfield 101, 3) := by decide +kernel
theorem dX6_isTested_8 : decode cX6_isTested 8 = .ok (.ireturn, 1) := by decide +kernel
theorem dX6_lack_0 : decode cX6_lack 0 = .ok (.aload_n 0, 1) := by decide +kernel
theorem dX6_lack_1 : decode cX6_lack 1 = .ok (.iload_n 1, 1) := by decide +kernel
theorem dX6_lack_2 : decode cX6_lack 2 = .ok (.iload_n 2, 1) := by decide +kernel
theorem dX6_lack_3 : decode cX6_lack 3 = .ok (.invokevirtual 125, 3) := by decide +kernel
theorem dX6_lack_6 : decode cX6_lack 6 = .ok (.aload_n 0, 1) := by decide +kernel
theorem dX6_lack_7 : decode cX6_lack 7 = .ok (.getfield 11, 3) := by decide +kernel
theorem dX6_lack_10 : decode cX6_lack 10 = .ok (.iload_n 1, 1) := by decide +kernel
theorem dX6_lack_11 : decode cX6_lack 11 = .ok (.aaload, 1) := by decide +kernel
theorem dX6_lack_12 : decode cX6_lack 12 = .ok (.iload_n 2, 1) := by decide +kernel
theorem dX6_lack_13 : decode cX6_lack 13 = .ok (.invokevirtual 298, 3) := by decide +kernel
theorem dX6_lack_16 : decode cX6_lack 16 = .ok (.ireturn, 1) := by decide +kernel
theorem dX6_lacks_0 : decode cX6_lacks 0 = .ok (.iload_n 1, 1) := by decide +kernel
theorem dX6_lacks_1 : decode cX6_lacks 1 = .ok (.invokestatic 302, 3) := by decide +kernel
theorem dX6_lacks_4 : decode cX6_lacks 4 = .ok (.ifCond .ne 14, 3) := by decide +kernel
theorem dX6_lacks_7 : decode cX6_lacks 7 = .ok (.new 36, 3) := by decide +kernel
theorem dX6_lacks_10 : decode cX6_lacks 10 = .ok (.dup, 1) := by decide +kernel
theorem dX6_lacks_11 : decode cX6_lacks 11 = .ok (.ldc_w 306, 3) := by decide +kernel
theorem dX6_lacks_14 : decode cX6_lacks 14 = .ok (.invokespecial 40, 3) := by decide +kernel
theorem dX6_lacks_17 : decode cX6_lacks 17 = .ok (.athrow, 1) := by decide +kernel
theorem dX6_lacks_18 : decode cX6_lacks 18 = .ok (.aload_n 0, 1) := by decide +kernel
theorem dX6_lacks_19 : decode cX6_lacks 19 = .ok (.iload_n 1, 1) := by decide +kernel
theorem dX6_lacks_20 : decode cX6_lacks 20 = .ok (.invokevirtual 308, 3) := by decide +kernel
theorem dX6_lacks_23 : decode cX6_lacks 23 = .ok (.ireturn, 1) := by decide +kernel
theorem dX6_undone_0 : decode cX6_undone 0 = .ok (.aload_n 0, 1) := by decide +kernel
theorem dX6_undone_1 : decode cX6_undone 1 = .ok (.getfield 105, 3) := by decide +kernel
theorem dX6_undone_4 : decode cX6_undone 4 = .ok (.ireturn, 1) := by decide +kernel
theorem dX6_ahead_0 : decode cX6_ahead 0 = .ok (.aload_n 0, 1) := by decide +kernel
theorem dX6_ahead_1 : decode cX6_ahead 1 = .ok (.iload_n 1, 1) := by decide +kernel
theorem dX6_ahead_2 : decode cX6_ahead 2 = .ok (.invokevirtual 312, 3) := by decide +kernel
theorem dX6_ahead_5 : decode cX6_ahead 5 = .ok (.aload_n 0, 1) := by decide +kernel
theorem dX6_ahead_6 : decode cX6_ahead 6 = .ok (.iload_n 2, 1) := by decide +kernel
theorem dX6_ahead_7 : decode cX6_ahead 7 = .ok (.invokevirtual 59, 3) := by decide +kernel
theorem dX6_ahead_10 : decode cX6_ahead 10 = .ok (.astore_n 3, 1) := by decide +kernel
theorem dX6_ahead_11 : decode cX6_ahead 11 = .ok (.iload_n 1, 1) := by decide +kernel
theorem dX6_ahead_12 : decode cX6_ahead 12 = .ok (.iload_n 2, 1) := by decide +kernel
theorem dX6_ahead_13 : decode cX6_ahead 13 = .ok (.if_icmp .ne 14, 3) := by decide +kernel
theorem dX6_ahead_16 : decode cX6_ahead 16 = .ok (.new 36, 3) := by decide +kernel
theorem dX6_ahead_19 : decode cX6_ahead 19 = .ok (.dup, 1) := by decide +kernel
theorem dX6_ahead_20 : decode cX6_ahead 20 = .ok (.ldc_w 315, 3) := by decide +kernel
theorem dX6_ahead_23 : decode cX6_ahead 23 = .ok (.invokespecial 40, 3) := by decide +kernel
theorem dX6_ahead_26 : decode cX6_ahead 26 = .ok (.athrow, 1) := by decide +kernel
theorem dX6_ahead_27 : decode cX6_ahead 27 = .ok (.aload_n 0, 1) := by decide +kernel
theorem dX6_ahead_28 : decode cX6_ahead 28 = .ok (.iload_n 1, 1) := by decide +kernel
theorem dX6_ahead_29 : decode cX6_ahead 29 = .ok (.invokevirtual 317, 3) := by decide +kernel
theorem dX6_ahead_32 : decode cX6_ahead 32 = .ok (.iload_n 2, 1) := by decide +kernel
theorem dX6_ahead_33 : decode cX6_ahead 33 = .ok (.invokestatic 295, 3) := by decide +kernel
theorem dX6_ahead_36 : decode cX6_ahead 36 = .ok (.ifCond .eq 14, 3) := by decide +kernel
theorem dX6_ahead_39 : decode cX6_ahead 39 = .ok (.new 93, 3) := by decide +kernel
theorem dX6_ahead_42 : decode cX6_ahead 42 = .ok (.dup, 1) := by decide +kernel
theorem dX6_ahead_43 : decode cX6_ahead 43 = .ok (.ldc_w 320, 3) := by decide +kernel
theorem dX6_ahead_46 : decode cX6_ahead 46 = .ok (.invokespecial 97, 3) := by decide +kernel
theorem dX6_ahead_49 : decode cX6_ahead 49 = .ok (.athrow, 1) := by decide +kernel
theorem dX6_ahead_50 : decode cX6_ahead 50 = .ok (.aload_n 3, 1) := by decide +kernel
theorem dX6_ahead_51 : decode cX6_ahead 51 = .ok (.getfield 322, 3) := by decide +kernel
theorem dX6_ahead_54 : decode cX6_ahead 54 = .ok (.iload_n 1, 1) := by decide +kernel
theorem dX6_ahead_55 : decode cX6_ahead 55 = .ok (.invokestatic 295, 3) := by decide +kernel
theorem dX6_ahead_58 : decode cX6_ahead 58 = .ok (.istore 4, 2) := by decide +kernel
theorem dX6_ahead_60 : decode cX6_ahead 60 = .ok (.aload_n 3, 1) := by decide +kernel
theorem dX6_ahead_61 : decode cX6_ahead 61 = .ok (.dup, 1) := by decide +kernel
theorem dX6_ahead_62 : decode cX6_ahead 62 = .ok (.getfield 322, 3) := by decide +kernel
theorem dX6_ahead_65 : decode cX6_ahead 65 = .ok (.iconst 1, 1) := by decide +kernel
theorem dX6_ahead_66 : decode cX6_ahead 66 = .ok (.iload_n 1, 1) := by decide +kernel
theorem dX6_ahead_67 : decode cX6_ahead 67 = .ok (.ishl, 1) := by decide +kernel
theorem dX6_ahead_68 : decode cX6_ahead 68 = .ok (.ior, 1) := by decide +kernel
theorem dX6_ahead_69 : decode cX6_ahead 69 = .ok (.putfield 322, 3) := by decide +kernel
theorem dX6_ahead_72 : decode cX6_ahead 72 = .ok (.iload 4, 2) := by decide +kernel
theorem dX6_ahead_74 : decode cX6_ahead 74 = .ok (.ireturn, 1) := by decide +kernel
theorem dX6_isReady_0 : decode cX6_isReady 0 = .ok (.aload_n 0, 1) := by decide +kernel
theorem dX6_isReady_1 : decode cX6_isReady 1 = .ok (.iload_n 1, 1) := by decide +kernel
theorem dX6_isReady_2 : decode cX6_isReady 2 = .ok (.invokevirtual 312, 3) := by decide +kernel
theorem dX6_isReady_5 : decode cX6_isReady 5 = .ok (.aload_n 0, 1) := by decide +kernel
theorem dX6_isReady_6 : decode cX6_isReady 6 = .ok (.iload_n 1, 1) := by decide +kernel
theorem dX6_isReady_7 : decode cX6_isReady 7 = .ok (.invokevirtual 317, 3) := by decide +kernel
theorem dX6_isReady_10 : decode cX6_isReady 10 = .ok (.iconst 1, 1) := by decide +kernel
theorem dX6_isReady_11 : decode cX6_isReady 11 = .ok (.iload_n 1, 1) := by decide +kernel
theorem dX6_isReady_12 : decode cX6_isReady 12 = .ok (.ishl, 1) := by decide +kernel
theorem dX6_isReady_13 : decode cX6_isReady 13 = .ok (.ior, 1) := by decide +kernel
theorem dX6_isReady_14 : decode cX6_isReady 14 = .ok (.istore_n 2, 1) := by decide +kernel
theorem dX6_isReady_15 : decode cX6_isReady 15 = .ok (.iconst 0, 1) := by decide +kernel
theorem dX6_isReady_16 : decode cX6_isReady 16 = .ok (.istore_n 3, 1) := by decide +kernel
theorem dX6_isReady_17 : decode cX6_isReady 17 = .ok (.iload_n 3, 1) := by decide +kernel
theorem dX6_isReady_18 : decode cX6_isReady 18 = .ok (.aload_n 0, 1) := by decide +kernel
theorem dX6_isReady_19 : decode cX6_isReady 19 = .ok (.getfield 43, 3) := by decide +kernel
theorem dX6_isReady_22 : decode cX6_isReady 22 = .ok (.if_icmp .ge 31, 3) := by decide +kernel
theorem dX6_isReady_25 : decode cX6_isReady 25 = .ok (.iload_n 2, 1) := by decide +kernel
theorem dX6_isReady_26 : decode cX6_isReady 26 = .ok (.iload_n 3, 1) := by decide +kernel
theorem dX6_isReady_27 : decode cX6_isReady 27 = .ok (.invokestatic 295, 3) := by decide +kernel
theorem dX6_isReady_30 : decode cX6_isReady 30 = .ok (.ifCond .eq 17, 3) := by decide +kernel
theorem dX6_isReady_33 : decode cX6_isReady 33 = .ok (.aload_n 0, 1) := by decide +kernel
theorem dX6_isReady_34 : decode cX6_isReady 34 = .ok (.getfield 11, 3) := by decide +kernel
theorem dX6_isReady_37 : decode cX6_isReady 37 = .ok (.iload_n 3, 1) := by decide +kernel
theorem dX6_isReady_38 : decode cX6_isReady 38 = .ok (.aaload, 1) := by decide +kernel
theorem dX6_isReady_39 : decode cX6_isReady 39 = .ok (.invokevirtual 325, 3) := by decide +kernel
theorem dX6_isReady_42 : decode cX6_isReady 42 = .ok (.ifCond .ne 5, 3) := by decide +kernel
theorem dX6_isReady_45 : decode cX6_isReady 45 = .ok (.iconst 0, 1) := by decide +kernel
theorem dX6_isReady_46 : decode cX6_isReady 46 = .ok (.ireturn, 1) := by decide +kernel
theorem dX6_isReady_47 : decode cX6_isReady 47 = .ok (.iinc 3 1, 3) := by decide +kernel
theorem dX6_isReady_50 : decode cX6_isReady 50 = .ok (.goto (-33), 3) := by decide +kernel
theorem dX6_isReady_53 : decode cX6_isReady 53 = .ok (.iconst 1, 1) := by decide +kernel
theorem dX6_isReady_54 : decode cX6_isReady 54 = .ok (.ireturn, 1) := by decide +kernel
theorem dX6_turnover_0 : decode cX6_turnover 0 = .ok (.aload_n 0, 1) := by decide +kernel
theorem dX6_turnover_1 : decode cX6_turnover 1 = .ok (.iload_n 1, 1) := by decide +kernel
theorem dX6_turnover_2 : decode cX6_turnover 2 = .ok (.invokevirtual 328, 3) := by decide +kernel
theorem dX6_turnover_5 : decode cX6_turnover 5 = .ok (.ifCond .ne 14, 3) := by decide +kernel
theorem dX6_turnover_8 : decode cX6_turnover 8 = .ok (.new 169, 3) := by decide +kernel
theorem dX6_turnover_11 : decode cX6_turnover 11 = .ok (.dup, 1) := by decide +kernel
theorem dX6_turnover_12 : decode cX6_turnover 12 = .ok (.ldc_w 331, 3) := by decide +kernel
theorem dX6_turnover_15 : decode cX6_turnover 15 = .ok (.invokespecial 173, 3) := by decide +kernel
theorem dX6_turnover_18 : decode cX6_turnover 18 = .ok (.athrow, 1) := by decide +kernel
theorem dX6_turnover_19 : decode cX6_turnover 19 = .ok (.iconst 0, 1) := by decide +kernel
theorem dX6_turnover_20 : decode cX6_turnover 20 = .ok (.istore_n 2, 1) := by decide +kernel
theorem dX6_turnover_21 : decode cX6_turnover 21 = .ok (.iconst 0, 1) := by decide +kernel
theorem dX6_turnover_22 : decode cX6_turnover 22 = .ok (.istore_n 3, 1) := by decide +kernel
theorem dX6_turnover_23 : decode cX6_turnover 23 = .ok (.iload_n 3, 1) := by decide +kernel
theorem dX6_turnover_24 : decode cX6_turnover 24 = .ok (.iload_n 1, 1) := by decide +kernel
theorem dX6_turnover_25 : decode cX6_turnover 25 = .ok (.if_icmp .ge 19, 3) := by decide +kernel
theorem dX6_turnover_28 : decode cX6_turnover 28 = .ok (.iload_n 2, 1) := by decide +kernel
theorem dX6_turnover_29 : decode cX6_turnover 29 = .ok (.iconst 1, 1) := by decide +kernel
theorem dX6_turnover_30 : decode cX6_turnover 30 = .ok (.aload_n 0, 1) := by decide +kernel
theorem dX6_turnover_31 : decode cX6_turnover 31 = .ok (.iload_n 2, 1) := by decide +kernel
theorem dX6_turnover_32 : decode cX6_turnover 32 = .ok (.invokevirtual 333, 3) := by decide +kernel
theorem dX6_turnover_35 : decode cX6_turnover 35 = .ok (.ishl, 1) := by decide +kernel
theorem dX6_turnover_36 : decode cX6_turnover 36 = .ok (.ior, 1) := by decide +kernel
theorem dX6_turnover_37 : decode cX6_turnover 37 = .ok (.istore_n 2, 1) := by decide +kernel
theorem dX6_turnover_38 : decode cX6_turnover 38 = .ok (.iinc 3 1, 3) := by decide +kernel
theorem dX6_turnover_41 : decode cX6_turnover 41 = .ok (.goto (-18), 3) := by decide +kernel
theorem dX6_turnover_44 : decode cX6_turnover 44 = .ok (.aload_n 0, 1) := by decide +kernel
theorem dX6_turnover_45 : decode cX6_turnover 45 = .ok (.iload_n 2, 1) := by decide +kernel
theorem dX6_turnover_46 : decode cX6_turnover 46 = .ok (.invokevirtual 333, 3) := by decide +kernel
theorem dX6_turnover_49 : decode cX6_turnover 49 = .ok (.ireturn, 1) := by decide +kernel
theorem dX6_checksum_0 : decode cX6_checksum 0 = .ok (.ldc2_w 336, 3) := by decide +kernel
theorem dX6_checksum_3 : decode cX6_checksum 3 = .ok (.lstore_n 1, 1) := by decide +kernel
theorem dX6_checksum_4 : decode cX6_checksum 4 = .ok (.iconst 0, 1) := by decide +kernel
theorem dX6_checksum_5 : decode cX6_checksum 5 = .ok (.istore_n 3, 1) := by decide +kernel
theorem dX6_checksum_6 : decode cX6_checksum 6 = .ok (.iload_n 3, 1) := by decide +kernel
theorem dX6_checksum_7 : decode cX6_checksum 7 = .ok (.aload_n 0, 1) := by decide +kernel
theorem dX6_checksum_8 : decode cX6_checksum 8 = .ok (.getfield 43, 3) := by decide +kernel
theorem dX6_checksum_11 : decode cX6_checksum 11 = .ok (.if_icmp .ge 55, 3) := by decide +kernel
theorem dX6_checksum_14 : decode cX6_checksum 14 = .ok (.iconst 0, 1) := by decide +kernel
theorem dX6_checksum_15 : decode cX6_checksum 15 = .ok (.istore 4, 2) := by decide +kernel
theorem dX6_checksum_17 : decode cX6_checksum 17 = .ok (.iload 4, 2) := by decide +kernel
theorem dX6_checksum_19 : decode cX6_checksum 19 = .ok (.aload_n 0, 1) := by decide +kernel
theorem dX6_checksum_20 : decode cX6_checksum 20 = .ok (.getfield 11, 3) := by decide +kernel
theorem dX6_checksum_23 : decode cX6_checksum 23 = .ok (.iload_n 3, 1) := by decide +kernel
theorem dX6_checksum_24 : decode cX6_checksum 24 = .ok (.aaload, 1) := by decide +kernel
theorem dX6_checksum_25 : decode cX6_checksum 25 = .ok (.invokevirtual 338, 3) := by decide +kernel
theorem dX6_checksum_28 : decode cX6_checksum 28 = .ok (.if_icmp .ge 32, 3) := by decide +kernel
theorem dX6_checksum_31 : decode cX6_checksum 31 = .ok (.ldc2_w 341, 3) := by decide +kernel
theorem dX6_checksum_34 : decode cX6_checksum 34 = .ok (.lload_n 1, 1) := by decide +kernel
theorem dX6_checksum_35 : decode cX6_checksum 35 = .ok (.lmul, 1) := by decide +kernel
theorem dX6_checksum_36 : decode cX6_checksum 36 = .ok (.aload_n 0, 1) := by decide +kernel
theorem dX6_checksum_37 : decode cX6_checksum 37 = .ok (.getfield 11, 3) := by decide +kernel
theorem dX6_checksum_40 : decode cX6_checksum 40 = .ok (.iload_n 3, 1) := by decide +kernel
theorem dX6_checksum_41 : decode cX6_checksum 41 = .ok (.aaload, 1) := by decide +kernel
theorem dX6_checksum_42 : decode cX6_checksum 42 = .ok (.getfield 343, 3) := by decide +kernel
theorem dX6_checksum_45 : decode cX6_checksum 45 = .ok (.iload 4, 2) := by decide +kernel
theorem dX6_checksum_47 : decode cX6_checksum 47 = .ok (.aaload, 1) := by decide +kernel
theorem dX6_checksum_48 : decode cX6_checksum 48 = .ok (.getfield 204, 3) := by decide +kernel
theorem dX6_checksum_51 : decode cX6_checksum 51 = .ok (.i2l, 1) := by decide +kernel
theorem dX6_checksum_52 : decode cX6_checksum 52 = .ok (.ladd, 1) := by decide +kernel
theorem dX6_checksum_53 : decode cX6_checksum 53 = .ok (.lstore_n 1, 1) := by decide +kernel
theorem dX6_checksum_54 : decode cX6_checksum 54 = .ok (.iinc 4 1, 3) := by decide +kernel
theorem dX6_checksum_57 : decode cX6_checksum 57 = .ok (.goto (-40), 3) := by decide +kernel
theorem dX6_checksum_60 : decode cX6_checksum 60 = .ok (.iinc 3 1, 3) := by decide +kernel
theorem dX6_checksum_63 : decode cX6_checksum 63 = .ok (.goto (-57), 3) := by decide +kernel
theorem dX6_checksum_66 : decode cX6_checksum 66 = .ok (.iconst 0, 1) := by decide +kernel
theorem dX6_checksum_67 : decode cX6_checksum 67 = .ok (.istore_n 3, 1) := by decide +kernel
theorem dX6_checksum_68 : decode cX6_checksum 68 = .ok (.iload_n 3, 1) := by decide +kernel
theorem dX6_checksum_69 : decode cX6_checksum 69 = .ok (.aload_n 0, 1) := by decide +kernel
theorem dX6_checksum_70 : decode cX6_checksum 70 = .ok (.getfield 133, 3) := by decide +kernel
theorem dX6_checksum_73 : decode cX6_checksum 73 = .ok (.if_icmp .ge 26, 3) := by decide +kernel
theorem dX6_checksum_76 : decode cX6_checksum 76 = .ok (.ldc2_w 341, 3) := by decide +kernel
theorem dX6_checksum_79 : decode cX6_checksum 79 = .ok (.lload_n 1, 1) := by decide +kernel
theorem dX6_checksum_80 : decode cX6_checksum 80 = .ok (.lmul, 1) := by decide +kernel
theorem dX6_checksum_81 : decode cX6_checksum 81 = .ok (.aload_n 0, 1) := by decide +kernel
theorem dX6_checksum_82 : decode cX6_checksum 82 = .ok (.getfield 17, 3) := by decide +kernel
theorem dX6_checksum_85 : decode cX6_checksum 85 = .ok (.iload_n 3, 1) := by decide +kernel
theorem dX6_checksum_86 : decode cX6_checksum 86 = .ok (.aaload, 1) := by decide +kernel
theorem dX6_checksum_87 : decode cX6_checksum 87 = .ok (.getfield 142, 3) := by decide +kernel
theorem dX6_checksum_90 : decode cX6_checksum 90 = .ok (.i2l, 1) := by decide +kernel
theorem dX6_checksum_91 : decode cX6_checksum 91 = .ok (.ladd, 1) := by decide +kernel
theorem dX6_checksum_92 : decode cX6_checksum 92 = .ok (.lstore_n 1, 1) := by decide +kernel
theorem dX6_checksum_93 : decode cX6_checksum 93 = .ok (.iinc 3 1, 3) := by decide +kernel
theorem dX6_checksum_96 : decode cX6_checksum 96 = .ok (.goto (-28), 3) := by decide +kernel
theorem dX6_checksum_99 : decode cX6_checksum 99 = .ok (.ldc2_w 341, 3) := by decide +kernel
theorem dX6_checksum_102 : decode cX6_checksum 102 = .ok (.lload_n 1, 1) := by decide +kernel
theorem dX6_checksum_103 : decode cX6_checksum 103 = .ok (.lmul, 1) := by decide +kernel
theorem dX6_checksum_104 : decode cX6_checksum 104 = .ok (.aload_n 0, 1) := by decide +kernel
theorem dX6_checksum_105 : decode cX6_checksum 105 = .ok (.getfield 105, 3) := by decide +kernel
theorem dX6_checksum_108 : decode cX6_checksum 108 = .ok (.i2l, 1) := by decide +kernel
theorem dX6_checksum_109 : decode cX6_checksum 109 = .ok (.ladd, 1) := by decide +kernel
theorem dX6_checksum_110 : decode cX6_checksum 110 = .ok (.lstore_n 1, 1) := by decide +kernel
theorem dX6_checksum_111 : decode cX6_checksum 111 = .ok (.ldc2_w 341, 3) := by decide +kernel
theorem dX6_checksum_114 : decode cX6_checksum 114 = .ok (.lload_n 1, 1) := by decide +kernel
theorem dX6_checksum_115 : decode cX6_checksum 115 = .ok (.lmul, 1) := by decide +kernel
theorem dX6_checksum_116 : decode cX6_checksum 116 = .ok (.aload_n 0, 1) := by decide +kernel
theorem dX6_checksum_117 : decode cX6_checksum 117 = .ok (.getfield 249, 3) := by decide +kernel
theorem dX6_checksum_120 : decode cX6_checksum 120 = .ok (.i2l, 1) := by decide +kernel
theorem dX6_checksum_121 : decode cX6_checksum 121 = .ok (.ladd, 1) := by decide +kernel
theorem dX6_checksum_122 : decode cX6_checksum 122 = .ok (.lreturn, 1) := by decide +kernel
theorem dX6_doneShare_0 : decode cX6_doneShare 0 = .ok (.iconst 0, 1) := by decide +kernel
theorem dX6_doneShare_1 : decode cX6_doneShare 1 = .ok (.istore_n 1, 1) := by decide +kernel
theorem dX6_doneShare_2 : decode cX6_doneShare 2 = .ok (.iconst 0, 1) := by decide +kernel
theorem dX6_doneShare_3 : decode cX6_doneShare 3 = .ok (.istore_n 2, 1) := by decide +kernel
theorem dX6_doneShare_4 : decode cX6_doneShare 4 = .ok (.iload_n 2, 1) := by decide +kernel
theorem dX6_doneShare_5 : decode cX6_doneShare 5 = .ok (.aload_n 0, 1) := by decide +kernel
theorem dX6_doneShare_6 : decode cX6_doneShare 6 = .ok (.getfield 43, 3) := by decide +kernel
theorem dX6_doneShare_9 : decode cX6_doneShare 9 = .ok (.if_icmp .ge 21, 3) := by decide +kernel
theorem dX6_doneShare_12 : decode cX6_doneShare 12 = .ok (.iload_n 1, 1) := by decide +kernel
theorem dX6_doneShare_13 : decode cX6_doneShare 13 = .ok (.aload_n 0, 1) := by decide +kernel
theorem dX6_doneShare_14 : decode cX6_doneShare 14 = .ok (.getfield 11, 3) := by decide +kernel
theorem dX6_doneShare_17 : decode cX6_doneShare 17 = .ok (.iload_n 2, 1) := by decide +kernel
theorem dX6_doneShare_18 : decode cX6_doneShare 18 = .ok (.aaload, 1) := by decide +kernel
theorem dX6_doneShare_19 : decode cX6_doneShare 19 = .ok (.invokevirtual 338, 3) := by decide +kernel
theorem dX6_doneShare_22 : decode cX6_doneShare 22 = .ok (.iadd, 1) := by decide +kernel
theorem dX6_doneShare_23 : decode cX6_doneShare 23 = .ok (.istore_n 1, 1) := by decide +kernel
theorem dX6_doneShare_24 : decode cX6_doneShare 24 = .ok (.iinc 2 1, 3) := by decide +kernel
theorem dX6_doneShare_27 : decode cX6_doneShare 27 = .ok (.goto (-23), 3) := by decide +kernel
theorem dX6_doneShare_30 : decode cX6_doneShare 30 = .ok (.iload_n 1, 1) := by decide +kernel
theorem dX6_doneShare_31 : decode cX6_doneShare 31 = .ok (.ifCond .ne 14, 3) := by decide +kernel
theorem dX6_doneShare_34 : decode cX6_doneShare 34 = .ok (.new 347, 3) := by decide +kernel
theorem dX6_doneShare_37 : decode cX6_doneShare 37 = .ok (.dup, 1) := by decide +kernel
theorem dX6_doneShare_38 : decode cX6_doneShare 38 = .ok (.ldc_w 349, 3) := by decide +kernel
theorem dX6_doneShare_41 : decode cX6_doneShare 41 = .ok (.invokespecial 351, 3) := by decide +kernel
theorem dX6_doneShare_44 : decode cX6_doneShare 44 = .ok (.athrow, 1) := by decide +kernel
theorem dX6_doneShare_45 : decode cX6_doneShare 45 = .ok (.aload_n 0, 1) := by decide +kernel
theorem dX6_doneShare_46 : decode cX6_doneShare 46 = .ok (.bipush 45, 2) := by decide +kernel
theorem dX6_doneShare_48 : decode cX6_doneShare 48 = .ok (.invokevirtual 308, 3) := by decide +kernel
theorem dX6_doneShare_51 : decode cX6_doneShare 51 = .ok (.i2f, 1) := by decide +kernel
theorem dX6_doneShare_52 : decode cX6_doneShare 52 = .ok (.iload_n 1, 1) := by decide +kernel
theorem dX6_doneShare_53 : decode cX6_doneShare 53 = .ok (.i2f, 1) := by decide +kernel
theorem dX6_doneShare_54 : decode cX6_doneShare 54 = .ok (.fdiv, 1) := by decide +kernel
theorem dX6_doneShare_55 : decode cX6_doneShare 55 = .ok (.freturn, 1) := by decide +kernel
theorem dX6_meanSpool_0 : decode cX6_meanSpool 0 = .ok (.aload_n 0, 1) := by decide +kernel
theorem dX6_meanSpool_1 : decode cX6_meanSpool 1 = .ok (.iload_n 1, 1) := by decide +kernel
theorem dX6_meanSpool_2 : decode cX6_meanSpool 2 = .ok (.invokevirtual 59, 3) := by decide +kernel
theorem dX6_meanSpool_5 : decode cX6_meanSpool 5 = .ok (.astore_n 2, 1) := by decide +kernel
theorem dX6_meanSpool_6 : decode cX6_meanSpool 6 = .ok (.aload_n 2, 1) := by decide +kernel
theorem dX6_meanSpool_7 : decode cX6_meanSpool 7 = .ok (.invokevirtual 115, 3) := by decide +kernel
theorem dX6_meanSpool_10 : decode cX6_meanSpool 10 = .ok (.istore_n 3, 1) := by decide +kernel
theorem dX6_meanSpool_11 : decode cX6_meanSpool 11 = .ok (.iload_n 3, 1) := by decide +kernel
theorem dX6_meanSpool_12 : decode cX6_meanSpool 12 = .ok (.ifCond .ne 14, 3) := by decide +kernel
theorem dX6_meanSpool_15 : decode cX6_meanSpool 15 = .ok (.new 347, 3) := by decide +kernel
theorem dX6_meanSpool_18 : decode cX6_meanSpool 18 = .ok (.dup, 1) := by decide +kernel
theorem dX6_meanSpool_19 : decode cX6_meanSpool 19 = .ok (.ldc_w 352, 3) := by decide +kernel
theorem dX6_meanSpool_22 : decode cX6_meanSpool 22 = .ok (.invokespecial 351, 3) := by decide +kernel
theorem dX6_meanSpool_25 : decode cX6_meanSpool 25 = .ok (.athrow, 1) := by decide +kernel
theorem dX6_meanSpool_26 : decode cX6_meanSpool 26 = .ok (.aload_n 2, 1) := by decide +kernel
theorem dX6_meanSpool_27 : decode cX6_meanSpool 27 = .ok (.invokevirtual 111, 3) := by decide +kernel
theorem dX6_meanSpool_30 : decode cX6_meanSpool 30 = .ok (.i2d, 1) := by decide +kernel
theorem dX6_meanSpool_31 : decode cX6_meanSpool 31 = .ok (.iload_n 3, 1) := by decide +kernel
theorem dX6_meanSpool_32 : decode cX6_meanSpool 32 = .ok (.i2d, 1) := by decide +kernel
theorem dX6_meanSpool_33 : decode cX6_meanSpool 33 = .ok (.ddiv, 1) := by decide +kernel
theorem dX6_meanSpool_34 : decode cX6_meanSpool 34 = .ok (.dreturn, 1) := by decide +kernel
theorem dX6_isSound_0 : decode cX6_isSound 0 = .ok (.iconst 0, 1) := by decide +kernel
theorem dX6_isSound_1 : decode cX6_isSound 1 = .ok (.istore_n 1, 1) := by decide +kernel
theorem dX6_isSound_2 : decode cX6_isSound 2 = .ok (.iload_n 1, 1) := by decide +kernel
theorem dX6_isSound_3 : decode cX6_isSound 3 = .ok (.aload_n 0, 1) := by decide +kernel
theorem dX6_isSound_4 : decode cX6_isSound 4 = .ok (.getfield 133, 3) := by decide +kernel
theorem dX6_isSound_7 : decode cX6_isSound 7 = .ok (.if_icmp .ge 55, 3) := by decide +kernel
theorem dX6_isSound_10 : decode cX6_isSound 10 = .ok (.aload_n 0, 1) := by decide +kernel
theorem dX6_isSound_11 : decode cX6_isSound 11 = .ok (.getfield 17, 3) := by decide +kernel
theorem dX6_isSound_14 : decode cX6_isSound 14 = .ok (.iload_n 1, 1) := by decide +kernel
theorem dX6_isSound_15 : decode cX6_isSound 15 = .ok (.aaload, 1) := by decide +kernel
theorem dX6_isSound_16 : decode cX6_isSound 16 = .ok (.getfield 142, 3) := by decide +kernel
theorem dX6_isSound_19 : decode cX6_isSound 19 = .ok (.ifCond .lt 35, 3) := by decide +kernel
theorem dX6_isSound_22 : decode cX6_isSound 22 = .ok (.aload_n 0, 1) := by decide +kernel
theorem dX6_isSound_23 : decode cX6_isSound 23 = .ok (.getfield 17, 3) := by decide +kernel
theorem dX6_isSound_26 : decode cX6_isSound 26 = .ok (.iload_n 1, 1) := by decide +kernel
theorem dX6_isSound_27 : decode cX6_isSound 27 = .ok (.aaload, 1) := by decide +kernel
theorem dX6_isSound_28 : decode cX6_isSound 28 = .ok (.getfield 142, 3) := by decide +kernel
theorem dX6_isSound_31 : decode cX6_isSound 31 = .ok (.aload_n 0, 1) := by decide +kernel
theorem dX6_isSound_32 : decode cX6_isSound 32 = .ok (.aload_n 0, 1) := by decide +kernel
theorem dX6_isSound_33 : decode cX6_isSound 33 = .ok (.getfield 17, 3) := by decide +kernel
theorem dX6_isSound_36 : decode cX6_isSound 36 = .ok (.iload_n 1, 1) := by decide +kernel
theorem dX6_isSound_37 : decode cX6_isSound 37 = .ok (.aaload, 1) := by decide +kernel
theorem dX6_isSound_38 : decode cX6_isSound 38 = .ok (.invokevirtual 354, 3) := by decide +kernel
theorem dX6_isSound_41 : decode cX6_isSound 41 = .ok (.iadd, 1) := by decide +kernel
theorem dX6_isSound_42 : decode cX6_isSound 42 = .ok (.aload_n 0, 1) := by decide +kernel
theorem dX6_isSound_43 : decode cX6_isSound 43 = .ok (.getfield 17, 3) := by decide +kernel
theorem dX6_isSound_46 : decode cX6_isSound 46 = .ok (.iload_n 1, 1) := by decide +kernel
theorem dX6_isSound_47 : decode cX6_isSound 47 = .ok (.aaload, 1) := by decide +kernel
theorem dX6_isSound_48 : decode cX6_isSound 48 = .ok (.getfield 141, 3) := by decide +kernel
theorem dX6_isSound_51 : decode cX6_isSound 51 = .ok (.if_icmp .eq 5, 3) := by decide +kernel
theorem dX6_isSound_54 : decode cX6_isSound 54 = .ok (.iconst 0, 1) := by decide +kernel
theorem dX6_isSound_55 : decode cX6_isSound 55 = .ok (.ireturn, 1) := by decide +kernel
theorem dX6_isSound_56 : decode cX6_isSound 56 = .ok (.iinc 1 1, 3) := by decide +kernel
theorem dX6_isSound_59 : decode cX6_isSound 59 = .ok (.goto (-57), 3) := by decide +kernel
theorem dX6_isSound_62 : decode cX6_isSound 62 = .ok (.iconst 0, 1) := by decide +kernel
theorem dX6_isSound_63 : decode cX6_isSound 63 = .ok (.istore_n 1, 1) := by decide +kernel
theorem dX6_isSound_64 : decode cX6_isSound 64 = .ok (.iload_n 1, 1) := by decide +kernel
theorem dX6_isSound_65 : decode cX6_isSound 65 = .ok (.aload_n 0, 1) := by decide +kernel
theorem dX6_isSound_66 : decode cX6_isSound 66 = .ok (.getfield 43, 3) := by decide +kernel
theorem dX6_isSound_69 : decode cX6_isSound 69 = .ok (.if_icmp .ge 65, 3) := by decide +kernel
theorem dX6_isSound_72 : decode cX6_isSound 72 = .ok (.aload_n 0, 1) := by decide +kernel
theorem dX6_isSound_73 : decode cX6_isSound 73 = .ok (.getfield 11, 3) := by decide +kernel
theorem dX6_isSound_76 : decode cX6_isSound 76 = .ok (.iload_n 1, 1) := by decide +kernel
theorem dX6_isSound_77 : decode cX6_isSound 77 = .ok (.aaload, 1) := by decide +kernel
theorem dX6_isSound_78 : decode cX6_isSound 78 = .ok (.invokevirtual 358, 3) := by decide +kernel
theorem dX6_isSound_81 : decode cX6_isSound 81 = .ok (.ifCond .eq 45, 3) := by decide +kernel
theorem dX6_isSound_84 : decode cX6_isSound 84 = .ok (.aload_n 0, 1) := by decide +kernel
theorem dX6_isSound_85 : decode cX6_isSound 85 = .ok (.getfield 11, 3) := by decide +kernel
theorem dX6_isSound_88 : decode cX6_isSound 88 = .ok (.iload_n 1, 1) := by decide +kernel
theorem dX6_isSound_89 : decode cX6_isSound 89 = .ok (.aaload, 1) := by decide +kernel
theorem dX6_isSound_90 : decode cX6_isSound 90 = .ok (.getfield 361, 3) := by decide +kernel
theorem dX6_isSound_93 : decode cX6_isSound 93 = .ok (.invokevirtual 364, 3) := by decide +kernel
theorem dX6_isSound_96 : decode cX6_isSound 96 = .ok (.ifCond .eq 30, 3) := by decide +kernel
theorem dX6_isSound_99 : decode cX6_isSound 99 = .ok (.aload_n 0, 1) := by decide +kernel
theorem dX6_isSound_100 : decode cX6_isSound 100 = .ok (.getfield 11, 3) := by decide +kernel
theorem dX6_isSound_103 : decode cX6_isSound 103 = .ok (.iload_n 1, 1) := by decide +kernel
theorem dX6_isSound_104 : decode cX6_isSound 104 = .ok (.aaload, 1) := by decide +kernel
theorem dX6_isSound_105 : decode cX6_isSound 105 = .ok (.getfield 367, 3) := by decide +kernel
theorem dX6_isSound_108 : decode cX6_isSound 108 = .ok (.invokevirtual 364, 3) := by decide +kernel
theorem dX6_isSound_111 : decode cX6_isSound 111 = .ok (.ifCond .eq 15, 3) := by decide +kernel
theorem dX6_isSound_114 : decode cX6_isSound 114 = .ok (.aload_n 0, 1) := by decide +kernel
theorem dX6_isSound_115 : decode cX6_isSound 115 = .ok (.iload_n 1, 1) := by decide +kernel
theorem dX6_isSound_116 : decode cX6_isSound 116 = .ok (.invokevirtual 317, 3) := by decide +kernel
theorem dX6_isSound_119 : decode cX6_isSound 119 = .ok (.iload_n 1, 1) := by decide +kernel
theorem dX6_isSound_120 : decode cX6_isSound 120 = .ok (.invokestatic 295, 3) := by decide +kernel
theorem dX6_isSound_123 : decode cX6_isSound 123 = .ok (.ifCond .eq 5, 3) := by decide +kernel
theorem dX6_isSound_126 : decode cX6_isSound 126 = .ok (.iconst 0, 1) := by decide +kernel
theorem dX6_isSound_127 : decode cX6_isSound 127 = .ok (.ireturn, 1) := by decide +kernel
theorem dX6_isSound_128 : decode cX6_isSound 128 = .ok (.iinc 1 1, 3) := by decide +kernel
theorem dX6_isSound_131 : decode cX6_isSound 131 = .ok (.goto (-67), 3) := by decide +kernel
theorem dX6_isSound_134 : decode cX6_isSound 134 = .ok (.iconst 1, 1) := by decide +kernel
theorem dX6_isSound_135 : decode cX6_isSound 135 = .ok (.ireturn, 1) := by decide +kernel
theorem dX6_isLine_0 : decode cX6_isLine 0 = .ok (.iload_n 1, 1) := by decide +kernel
theorem dX6_isLine_1 : decode cX6_isLine 1 = .ok (.ifCond .lt 15, 3) := by decide +kernel
theorem dX6_isLine_4 : decode cX6_isLine 4 = .ok (.iload_n 1, 1) := by decide +kernel
theorem dX6_isLine_5 : decode cX6_isLine 5 = .ok (.aload_n 0, 1) := by decide +kernel
theorem dX6_isLine_6 : decode cX6_isLine 6 = .ok (.getfield 43, 3) := by decide +kernel
theorem dX6_isLine_9 : decode cX6_isLine 9 = .ok (.if_icmp .ge 7, 3) := by decide +kernel
theorem dX6_isLine_12 : decode cX6_isLine 12 = .ok (.iconst 1, 1) := by decide +kernel
theorem dX6_isLine_13 : decode cX6_isLine 13 = .ok (.goto 4, 3) := by decide +kernel
theorem dX6_isLine_16 : decode cX6_isLine 16 = .ok (.iconst 0, 1) := by decide +kernel
theorem dX6_isLine_17 : decode cX6_isLine 17 = .ok (.ireturn, 1) := by decide +kernel
theorem dX6_checkLine_0 : decode cX6_checkLine 0 = .ok (.aload_n 0, 1) := by decide +kernel
theorem dX6_checkLine_1 : decode cX6_checkLine 1 = .ok (.iload_n 1, 1) := by decide +kernel
theorem dX6_checkLine_2 : decode cX6_checkLine 2 = .ok (.invokevirtual 328, 3) := by decide +kernel
theorem dX6_checkLine_5 : decode cX6_checkLine 5 = .ok (.ifCond .ne 14, 3) := by decide +kernel
theorem dX6_checkLine_8 : decode cX6_checkLine 8 = .ok (.new 370, 3) := by decide +kernel
theorem dX6_checkLine_11 : decode cX6_checkLine 11 = .ok (.dup, 1) := by decide +kernel
theorem dX6_checkLine_12 : decode cX6_checkLine 12 = .ok (.ldc_w 372, 3) := by decide +kernel
theorem dX6_checkLine_15 : decode cX6_checkLine 15 = .ok (.invokespecial 374, 3) := by decide +kernel
theorem dX6_checkLine_18 : decode cX6_checkLine 18 = .ok (.athrow, 1) := by decide +kernel
theorem dX6_checkLine_19 : decode cX6_checkLine 19 = .ok (.return_, 1) := by decide +kernel
theorem dX6_checkPart_0 : decode cX6_checkPart 0 = .ok (.aload_n 0, 1) := by decide +kernel
theorem dX6_checkPart_1 : decode cX6_checkPart 1 = .ok (.iload_n 1, 1) := by decide +kernel
theorem dX6_checkPart_2 : decode cX6_checkPart 2 = .ok (.invokevirtual 312, 3) := by decide +kernel
theorem dX6_checkPart_5 : decode cX6_checkPart 5 = .ok (.iload_n 2, 1) := by decide +kernel
theorem dX6_checkPart_6 : decode cX6_checkPart 6 = .ok (.ifCond .lt 16, 3) := by decide +kernel
theorem dX6_checkPart_9 : decode cX6_checkPart 9 = .ok (.iload_n 2, 1) := by decide +kernel
theorem dX6_checkPart_10 : decode cX6_checkPart 10 = .ok (.aload_n 0, 1) := by decide +kernel
theorem dX6_checkPart_11 : decode cX6_checkPart 11 = .ok (.getfield 11, 3) := by decide +kernel
theorem dX6_checkPart_14 : decode cX6_checkPart 14 = .ok (.iload_n 1, 1) := by decide +kernel
theorem dX6_checkPart_15 : decode cX6_checkPart 15 = .ok (.aaload, 1) := by decide +kernel
theorem dX6_checkPart_16 : decode cX6_checkPart 16 = .ok (.getfield 71, 3) := by decide +kernel
theorem dX6_checkPart_19 : decode cX6_checkPart 19 = .ok (.if_icmp .lt 14, 3) := by decide +kernel
theorem dX6_checkPart_22 : decode cX6_checkPart 22 = .ok (.new 370, 3) := by decide +kernel
theorem dX6_checkPart_25 : decode cX6_checkPart 25 = .ok (.dup, 1) := by decide +kernel
theorem dX6_checkPart_26 : decode cX6_checkPart 26 = .ok (.ldc_w 375, 3) := by decide +kernel
theorem dX6_checkPart_29 : decode cX6_checkPart 29 = .ok (.invokespecial 374, 3) := by decide +kernel
theorem dX6_checkPart_32 : decode cX6_checkPart 32 = .ok (.athrow, 1) := by decide +kernel
theorem dX6_checkPart_33 : decode cX6_checkPart 33 = .ok (.return_, 1) := by decide +kernel
theorem dX6_checkJoint_0 : decode cX6_checkJoint 0 = .ok (.aload_n 0, 1) := by decide +kernel
theorem dX6_checkJoint_1 : decode cX6_checkJoint 1 = .ok (.iload_n 1, 1) := by decide +kernel
theorem dX6_checkJoint_2 : decode cX6_checkJoint 2 = .ok (.invokevirtual 312, 3) := by decide +kernel
theorem dX6_checkJoint_5 : decode cX6_checkJoint 5 = .ok (.iload_n 2, 1) := by decide +kernel
theorem dX6_checkJoint_6 : decode cX6_checkJoint 6 = .ok (.ifCond .lt 16, 3) := by decide +kernel
theorem dX6_checkJoint_9 : decode cX6_checkJoint 9 = .ok (.iload_n 2, 1) := by decide +kernel
theorem dX6_checkJoint_10 : decode cX6_checkJoint 10 = .ok (.aload_n 0, 1) := by decide +kernel
theorem dX6_checkJoint_11 : decode cX6_checkJoint 11 = .ok (.getfield 11, 3) := by decide +kernel
theorem dX6_checkJoint_14 : decode cX6_checkJoint 14 = .ok (.iload_n 1, 1) := by decide +kernel
theorem dX6_checkJoint_15 : decode cX6_checkJoint 15 = .ok (.aaload, 1) := by decide +kernel
theorem dX6_checkJoint_16 : decode cX6_checkJoint 16 = .ok (.invokevirtual 338, 3) := by decide +kernel
theorem dX6_checkJoint_19 : decode cX6_checkJoint 19 = .ok (.if_icmp .lt 14, 3) := by decide +kernel
theorem dX6_checkJoint_22 : decode cX6_checkJoint 22 = .ok (.new 370, 3) := by decide +kernel
theorem dX6_checkJoint_25 : decode cX6_checkJoint 25 = .ok (.dup, 1) := by decide +kernel
theorem dX6_checkJoint_26 : decode cX6_checkJoint 26 = .ok (.ldc_w 377, 3) := by decide +kernel
theorem dX6_checkJoint_29 : decode cX6_checkJoint 29 = .ok (.invokespecial 374, 3) := by decide +kernel
theorem dX6_checkJoint_32 : decode cX6_checkJoint 32 = .ok (.athrow, 1) := by decide +kernel
theorem dX6_checkJoint_33 : decode cX6_checkJoint 33 = .ok (.return_, 1) := by decide +kernel
theorem dX6_lineAt_0 : decode cX6_lineAt 0 = .ok (.aload_n 0, 1) := by decide +kernel
theorem dX6_lineAt_1 : decode cX6_lineAt 1 = .ok (.iload_n 1, 1) := by decide +kernel
theorem dX6_lineAt_2 : decode cX6_lineAt 2 = .ok (.invokevirtual 312, 3) := by decide +kernel
theorem dX6_lineAt_5 : decode cX6_lineAt 5 = .ok (.aload_n 0, 1) := by decide +kernel
theorem dX6_lineAt_6 : decode cX6_lineAt 6 = .ok (.getfield 11, 3) := by decide +kernel
theorem dX6_lineAt_9 : decode cX6_lineAt 9 = .ok (.iload_n 1, 1) := by decide +kernel
theorem dX6_lineAt_10 : decode cX6_lineAt 10 = .ok (.aaload, 1) := by decide +kernel
theorem dX6_lineAt_11 : decode cX6_lineAt 11 = .ok (.areturn, 1) := by decide +kernel
theorem dX6_partAt_0 : decode cX6_partAt 0 = .ok (.aload_n 0, 1) := by decide +kernel
theorem dX6_partAt_1 : decode cX6_partAt 1 = .ok (.iload_n 1, 1) := by decide +kernel
theorem dX6_partAt_2 : decode cX6_partAt 2 = .ok (.iload_n 2, 1) := by decide +kernel
theorem dX6_partAt_3 : decode cX6_partAt 3 = .ok (.invokevirtual 118, 3) := by decide +kernel
theorem dX6_partAt_6 : decode cX6_partAt 6 = .ok (.aload_n 0, 1) := by decide +kernel
theorem dX6_partAt_7 : decode cX6_partAt 7 = .ok (.getfield 11, 3) := by decide +kernel
theorem dX6_partAt_10 : decode cX6_partAt 10 = .ok (.iload_n 1, 1) := by decide +kernel
theorem dX6_partAt_11 : decode cX6_partAt 11 = .ok (.aaload, 1) := by decide +kernel
theorem dX6_partAt_12 : decode cX6_partAt 12 = .ok (.getfield 379, 3) := by decide +kernel
theorem dX6_partAt_15 : decode cX6_partAt 15 = .ok (.iload_n 2, 1) := by decide +kernel
theorem dX6_partAt_16 : decode cX6_partAt 16 = .ok (.aaload, 1) := by decide +kernel
theorem dX6_partAt_17 : decode cX6_partAt 17 = .ok (.areturn, 1) := by decide +kernel
theorem dX6_jointAt_0 : decode cX6_jointAt 0 = .ok (.aload_n 0, 1) := by decide +kernel
theorem dX6_jointAt_1 : decode cX6_jointAt 1 = .ok (.iload_n 1, 1) := by decide +kernel
theorem dX6_jointAt_2 : decode cX6_jointAt 2 = .ok (.iload_n 2, 1) := by decide +kernel
theorem dX6_jointAt_3 : decode cX6_jointAt 3 = .ok (.invokevirtual 125, 3) := by decide +kernel
theorem dX6_jointAt_6 : decode cX6_jointAt 6 = .ok (.aload_n 0, 1) := by decide +kernel
theorem dX6_jointAt_7 : decode cX6_jointAt 7 = .ok (.getfield 11, 3) := by decide +kernel
theorem dX6_jointAt_10 : decode cX6_jointAt 10 = .ok (.iload_n 1, 1) := by decide +kernel
theorem dX6_jointAt_11 : decode cX6_jointAt 11 = .ok (.aaload, 1) := by decide +kernel
theorem dX6_jointAt_12 : decode cX6_jointAt 12 = .ok (.getfield 343, 3) := by decide +kernel
theorem dX6_jointAt_15 : decode cX6_jointAt 15 = .ok (.iload_n 2, 1) := by decide +kernel
theorem dX6_jointAt_16 : decode cX6_jointAt 16 = .ok (.aaload, 1) := by decide +kernel
theorem dX6_jointAt_17 : decode cX6_jointAt 17 = .ok (.areturn, 1) := by decide +kernel
theorem dX6_heatAt_0 : decode cX6_heatAt 0 = .ok (.iload_n 1, 1) := by decide +kernel
theorem dX6_heatAt_1 : decode cX6_heatAt 1 = .ok (.ifCond .lt 11, 3) := by decide +kernel
theorem dX6_heatAt_4 : decode cX6_heatAt 4 = .ok (.iload_n 1, 1) := by decide +kernel
theorem dX6_heatAt_5 : decode cX6_heatAt 5 = .ok (.aload_n 0, 1) := by decide +kernel
theorem dX6_heatAt_6 : decode cX6_heatAt 6 = .ok (.getfield 133, 3) := by decide +kernel
theorem dX6_heatAt_9 : decode cX6_heatAt 9 = .ok (.if_icmp .lt 14, 3) := by decide +kernel
theorem dX6_heatAt_12 : decode cX6_heatAt 12 = .ok (.new 370, 3) := by decide +kernel
theorem dX6_heatAt_15 : decode cX6_heatAt 15 = .ok (.dup, 1) := by decide +kernel
theorem dX6_heatAt_16 : decode cX6_heatAt 16 = .ok (.ldc_w 383, 3) := by decide +kernel
theorem dX6_heatAt_19 : decode cX6_heatAt 19 = .ok (.invokespecial 374, 3) := by decide +kernel
theorem dX6_heatAt_22 : decode cX6_heatAt 22 = .ok (.athrow, 1) := by decide +kernel
theorem dX6_heatAt_23 : decode cX6_heatAt 23 = .ok (.aload_n 0, 1) := by decide +kernel
theorem dX6_heatAt_24 : decode cX6_heatAt 24 = .ok (.getfield 17, 3) := by decide +kernel
theorem dX6_heatAt_27 : decode cX6_heatAt 27 = .ok (.iload_n 1, 1) := by decide +kernel
theorem dX6_heatAt_28 : decode cX6_heatAt 28 = .ok (.aaload, 1) := by decide +kernel
theorem dX6_heatAt_29 : decode cX6_heatAt 29 = .ok (.areturn, 1) := by decide +kernel
theorem dX6_welderAt_0 : decode cX6_welderAt 0 = .ok (.iload_n 1, 1) := by decide +kernel
theorem dX6_welderAt_1 : decode cX6_welderAt 1 = .ok (.ifCond .lt 11, 3) := by decide +kernel
theorem dX6_welderAt_4 : decode cX6_welderAt 4 = .ok (.iload_n 1, 1) := by decide +kernel
theorem dX6_welderAt_5 : decode cX6_welderAt 5 = .ok (.aload_n 0, 1) := by decide +kernel
theorem dX6_welderAt_6 : decode cX6_welderAt 6 = .ok (.getfield 182, 3) := by decide +kernel
theorem dX6_welderAt_9 : decode cX6_welderAt 9 = .ok (.if_icmp .lt 14, 3) := by decide +kernel
theorem dX6_welderAt_12 : decode cX6_welderAt 12 = .ok (.new 370, 3) := by decide +kernel
theorem dX6_welderAt_15 : decode cX6_welderAt 15 = .ok (.dup, 1) := by decide +kernel
theorem dX6_welderAt_16 : decode cX6_welderAt 16 = .ok (.ldc_w 385, 3) := by decide +kernel
theorem dX6_welderAt_19 : decode cX6_welderAt 19 = .ok (.invokespecial 374, 3) := by decide +kernel
theorem dX6_welderAt_22 : decode cX6_welderAt 22 = .ok (.athrow, 1) := by decide +kernel
theorem dX6_welderAt_23 : decode cX6_welderAt 23 = .ok (.aload_n 0, 1) := by decide +kernel
theorem dX6_welderAt_24 : decode cX6_welderAt 24 = .ok (.getfield 23, 3) := by decide +kernel
theorem dX6_welderAt_27 : decode cX6_welderAt 27 = .ok (.iload_n 1, 1) := by decide +kernel
theorem dX6_welderAt_28 : decode cX6_welderAt 28 = .ok (.aaload, 1) := by decide +kernel
theorem dX6_welderAt_29 : decode cX6_welderAt 29 = .ok (.areturn, 1) := by decide +kernel
theorem dX6_circuitAt_0 : decode cX6_circuitAt 0 = .ok (.iload_n 1, 1) := by decide +kernel
theorem dX6_circuitAt_1 : decode cX6_circuitAt 1 = .ok (.ifCond .lt 11, 3) := by decide +kernel
theorem dX6_circuitAt_4 : decode cX6_circuitAt 4 = .ok (.iload_n 1, 1) := by decide +kernel
theorem dX6_circuitAt_5 : decode cX6_circuitAt 5 = .ok (.aload_n 0, 1) := by decide +kernel
theorem dX6_circuitAt_6 : decode cX6_circuitAt 6 = .ok (.getfield 279, 3) := by decide +kernel
theorem dX6_circuitAt_9 : decode cX6_circuitAt 9 = .ok (.if_icmp .lt 14, 3) := by decide +kernel
theorem dX6_circuitAt_12 : decode cX6_circuitAt 12 = .ok (.new 370, 3) := by decide +kernel
theorem dX6_circuitAt_15 : decode cX6_circuitAt 15 = .ok (.dup, 1) := by decide +kernel
theorem dX6_circuitAt_16 : decode cX6_circuitAt 16 = .ok (.ldc_w 387, 3) := by decide +kernel
theorem dX6_circuitAt_19 : decode cX6_circuitAt 19 = .ok (.invokespecial 374, 3) := by decide +kernel
theorem dX6_circuitAt_22 : decode cX6_circuitAt 22 = .ok (.athrow, 1) := by decide +kernel
theorem dX6_circuitAt_23 : decode cX6_circuitAt 23 = .ok (.aload_n 0, 1) := by decide +kernel
theorem dX6_circuitAt_24 : decode cX6_circuitAt 24 = .ok (.getfield 27, 3) := by decide +kernel
theorem dX6_circuitAt_27 : decode cX6_circuitAt 27 = .ok (.iload_n 1, 1) := by decide +kernel
theorem dX6_circuitAt_28 : decode cX6_circuitAt 28 = .ok (.iaload, 1) := by decide +kernel
theorem dX6_circuitAt_29 : decode cX6_circuitAt 29 = .ok (.ireturn, 1) := by decide +kernel
theorem dX6_lookShareOf_0 : decode cX6_lookShareOf 0 = .ok (.iload_n 0, 1) := by decide +kernel
theorem dX6_lookShareOf_1 : decode cX6_lookShareOf 1 = .ok (.iconst 1, 1) := by decide +kernel
theorem dX6_lookShareOf_2 : decode cX6_lookShareOf 2 = .ok (.if_icmp .ne 5, 3) := by decide +kernel
theorem dX6_lookShareOf_5 : decode cX6_lookShareOf 5 = .ok (.iconst 5, 1) := by decide +kernel
theorem dX6_lookShareOf_6 : decode cX6_lookShareOf 6 = .ok (.ireturn, 1) := by decide +kernel
theorem dX6_lookShareOf_7 : decode cX6_lookShareOf 7 = .ok (.iload_n 0, 1) := by decide +kernel
theorem dX6_lookShareOf_8 : decode cX6_lookShareOf 8 = .ok (.iconst 2, 1) := by decide +kernel
theorem dX6_lookShareOf_9 : decode cX6_lookShareOf 9 = .ok (.if_icmp .ne 8, 3) := by decide +kernel
theorem dX6_lookShareOf_12 : decode cX6_lookShareOf 12 = .ok (.bipush 20, 2) := by decide +kernel
theorem dX6_lookShareOf_14 : decode cX6_lookShareOf 14 = .ok (.goto 5, 3) := by decide +kernel
theorem dX6_lookShareOf_17 : decode cX6_lookShareOf 17 = .ok (.bipush 100, 2) := by decide +kernel
theorem dX6_lookShareOf_19 : decode cX6_lookShareOf 19 = .ok (.ireturn, 1) := by decide +kernel
theorem dX6_isPartLength_0 : decode cX6_isPartLength 0 = .ok (.iload_n 0, 1) := by decide +kernel
theorem dX6_isPartLength_1 : decode cX6_isPartLength 1 = .ok (.bipush 100, 2) := by decide +kernel
theorem dX6_isPartLength_3 : decode cX6_isPartLength 3 = .ok (.if_icmp .lt 14, 3) := by decide +kernel
theorem dX6_isPartLength_6 : decode cX6_isPartLength 6 = .ok (.iload_n 0, 1) := by decide +kernel
theorem dX6_isPartLength_7 : decode cX6_isPartLength 7 = .ok (.sipush 6000, 3) := by decide +kernel
theorem dX6_isPartLength_10 : decode cX6_isPartLength 10 = .ok (.if_icmp .gt 7, 3) := by decide +kernel
theorem dX6_isPartLength_13 : decode cX6_isPartLength 13 = .ok (.iconst 1, 1) := by decide +kernel
theorem dX6_isPartLength_14 : decode cX6_isPartLength 14 = .ok (.goto 4, 3) := by decide +kernel
theorem dX6_isPartLength_17 : decode cX6_isPartLength 17 = .ok (.iconst 0, 1) := by decide +kernel
theorem dX6_isPartLength_18 : decode cX6_isPartLength 18 = .ok (.ireturn, 1) := by decide +kernel
theorem dX6_isAlloy_0 : decode cX6_isAlloy 0 = .ok (.iload_n 0, 1) := by decide +kernel
theorem dX6_isAlloy_1 : decode cX6_isAlloy 1 = .ok (.ifCond .lt 12, 3) := by decide +kernel
theorem dX6_isAlloy_4 : decode cX6_isAlloy 4 = .ok (.iload_n 0, 1) := by decide +kernel
theorem dX6_isAlloy_5 : decode cX6_isAlloy 5 = .ok (.iconst 4, 1) := by decide +kernel
theorem dX6_isAlloy_6 : decode cX6_isAlloy 6 = .ok (.if_icmp .ge 7, 3) := by decide +kernel
theorem dX6_isAlloy_9 : decode cX6_isAlloy 9 = .ok (.iconst 1, 1) := by decide +kernel
theorem dX6_isAlloy_10 : decode cX6_isAlloy 10 = .ok (.goto 4, 3) := by decide +kernel
theorem dX6_isAlloy_13 : decode cX6_isAlloy 13 = .ok (.iconst 0, 1) := by decide +kernel
theorem dX6_isAlloy_14 : decode cX6_isAlloy 14 = .ok (.ireturn, 1) := by decide +kernel
theorem dX6_isLack_0 : decode cX6_isLack 0 = .ok (.iload_n 0, 1) := by decide +kernel
theorem dX6_isLack_1 : decode cX6_isLack 1 = .ok (.bipush 115, 2) := by decide +kernel
theorem dX6_isLack_3 : decode cX6_isLack 3 = .ok (.if_icmp .eq 39, 3) := by decide +kernel
theorem dX6_isLack_6 : decode cX6_isLack 6 = .ok (.iload_n 0, 1) := by decide +kernel
theorem dX6_isLack_7 : decode cX6_isLack 7 = .ok (.bipush 112, 2) := by decide +kernel
theorem dX6_isLack_9 : decode cX6_isLack 9 = .ok (.if_icmp .eq 33, 3) := by decide +kernel
theorem dX6_isLack_12 : decode cX6_isLack 12 = .ok (.iload_n 0, 1) := by decide +kernel
theorem dX6_isLack_13 : decode cX6_isLack 13 = .ok (.bipush 119, 2) := by decide +kernel
theorem dX6_isLack_15 : decode cX6_isLack 15 = .ok (.if_icmp .eq 27, 3) := by decide +kernel
theorem dX6_isLack_18 : decode cX6_isLack 18 = .ok (.iload_n 0, 1) := by decide +kernel
theorem dX6_isLack_19 : decode cX6_isLack 19 = .ok (.bipush 98, 2) := by decide +kernel
theorem dX6_isLack_21 : decode cX6_isLack 21 = .ok (.if_icmp .eq 21, 3) := by decide +kernel
theorem dX6_isLack_24 : decode cX6_isLack 24 = .ok (.iload_n 0, 1) := by decide +kernel
theorem dX6_isLack_25 : decode cX6_isLack 25 = .ok (.bipush 108, 2) := by decide +kernel
theorem dX6_isLack_27 : decode cX6_isLack 27 = .ok (.if_icmp .eq 15, 3) := by decide +kernel
theorem dX6_isLack_30 : decode cX6_isLack 30 = .ok (.iload_n 0, 1) := by decide +kernel
theorem dX6_isLack_31 : decode cX6_isLack 31 = .ok (.bipush 116, 2) := by decide +kernel
theorem dX6_isLack_33 : decode cX6_isLack 33 = .ok (.if_icmp .eq 9, 3) := by decide +kernel
theorem dX6_isLack_36 : decode cX6_isLack 36 = .ok (.iload_n 0, 1) := by decide +kernel
theorem dX6_isLack_37 : decode cX6_isLack 37 = .ok (.bipush 105, 2) := by decide +kernel
theorem dX6_isLack_39 : decode cX6_isLack 39 = .ok (.if_icmp .ne 7, 3) := by decide +kernel
theorem dX6_isLack_42 : decode cX6_isLack 42 = .ok (.iconst 1, 1) := by decide +kernel
theorem dX6_isLack_43 : decode cX6_isLack 43 = .ok (.goto 4, 3) := by decide +kernel
theorem dX6_isLack_46 : decode cX6_isLack 46 = .ok (.iconst 0, 1) := by decide +kernel
theorem dX6_isLack_47 : decode cX6_isLack 47 = .ok (.ireturn, 1) := by decide +kernel
theorem dX6_hasBit_0 : decode cX6_hasBit 0 = .ok (.iload_n 0, 1) := by decide +kernel
theorem dX6_hasBit_1 : decode cX6_hasBit 1 = .ok (.iload_n 1, 1) := by decide +kernel
theorem dX6_hasBit_2 : decode cX6_hasBit 2 = .ok (.ishr, 1) := by decide +kernel
theorem dX6_hasBit_3 : decode cX6_hasBit 3 = .ok (.iconst 1, 1) := by decide +kernel
theorem dX6_hasBit_4 : decode cX6_hasBit 4 = .ok (.iand, 1) := by decide +kernel
theorem dX6_hasBit_5 : decode cX6_hasBit 5 = .ok (.ifCond .eq 7, 3) := by decide +kernel
theorem dX6_hasBit_8 : decode cX6_hasBit 8 = .ok (.iconst 1, 1) := by decide +kernel
theorem dX6_hasBit_9 : decode cX6_hasBit 9 = .ok (.goto 4, 3) := by decide +kernel
theorem dX6_hasBit_12 : decode cX6_hasBit 12 = .ok (.iconst 0, 1) := by decide +kernel
theorem dX6_hasBit_13 : decode cX6_hasBit 13 = .ok (.ireturn, 1) := by decide +kernel
theorem dX6_isAllowed_0 : decode cX6_isAllowed 0 = .ok (.aload_n 1, 1) := by decide +kernel
theorem dX6_isAllowed_1 : decode cX6_isAllowed 1 = .ok (.getfield 379, 3) := by decide +kernel
theorem dX6_isAllowed_4 : decode cX6_isAllowed 4 = .ok (.iload_n 2, 1) := by decide +kernel
theorem dX6_isAllowed_5 : decode cX6_isAllowed 5 = .ok (.aaload, 1) := by decide +kernel
theorem dX6_isAllowed_6 : decode cX6_isAllowed 6 = .ok (.getfield 159, 3) := by decide +kernel
theorem dX6_isAllowed_9 : decode cX6_isAllowed 9 = .ok (.astore 4, 2) := by decide +kernel
theorem dX6_isAllowed_11 : decode cX6_isAllowed 11 = .ok (.aload_n 1, 1) := by decide +kernel
theorem dX6_isAllowed_12 : decode cX6_isAllowed 12 = .ok (.getfield 379, 3) := by decide +kernel
theorem dX6_isAllowed_15 : decode cX6_isAllowed 15 = .ok (.iload_n 2, 1) := by decide +kernel
theorem dX6_isAllowed_16 : decode cX6_isAllowed 16 = .ok (.iconst 1, 1) := by decide +kernel
theorem dX6_isAllowed_17 : decode cX6_isAllowed 17 = .ok (.iadd, 1) := by decide +kernel
theorem dX6_isAllowed_18 : decode cX6_isAllowed 18 = .ok (.aaload, 1) := by decide +kernel
theorem dX6_isAllowed_19 : decode cX6_isAllowed 19 = .ok (.getfield 159, 3) := by decide +kernel
theorem dX6_isAllowed_22 : decode cX6_isAllowed 22 = .ok (.astore 5, 2) := by decide +kernel
theorem dX6_isAllowed_24 : decode cX6_isAllowed 24 = .ok (.aload 4, 2) := by decide +kernel
theorem dX6_isAllowed_26 : decode cX6_isAllowed 26 = .ok (.ifnull 42, 3) := by decide +kernel
theorem dX6_isAllowed_29 : decode cX6_isAllowed 29 = .ok (.aload 5, 2) := by decide +kernel
theorem dX6_isAllowed_31 : decode cX6_isAllowed 31 = .ok (.ifnull 37, 3) := by decide +kernel
theorem dX6_isAllowed_34 : decode cX6_isAllowed 34 = .ok (.aload 4, 2) := by decide +kernel
theorem dX6_isAllowed_36 : decode cX6_isAllowed 36 = .ok (.getfield 138, 3) := by decide +kernel
theorem dX6_isAllowed_39 : decode cX6_isAllowed 39 = .ok (.aload 5, 2) := by decide +kernel
theorem dX6_isAllowed_41 : decode cX6_isAllowed 41 = .ok (.getfield 138, 3) := by decide +kernel
theorem dX6_isAllowed_44 : decode cX6_isAllowed 44 = .ok (.if_icmp .ne 24, 3) := by decide +kernel
theorem dX6_isAllowed_47 : decode cX6_isAllowed 47 = .ok (.aload_n 0, 1) := by decide +kernel
theorem dX6_isAllowed_48 : decode cX6_isAllowed 48 = .ok (.getfield 249, 3) := by decide +kernel
theorem dX6_isAllowed_51 : decode cX6_isAllowed 51 = .ok (.aload_n 3, 1) := by decide +kernel
theorem dX6_isAllowed_52 : decode cX6_isAllowed 52 = .ok (.getfield 193, 3) := by decide +kernel
theorem dX6_isAllowed_55 : decode cX6_isAllowed 55 = .ok (.aload 4, 2) := by decide +kernel
theorem dX6_isAllowed_57 : decode cX6_isAllowed 57 = .ok (.getfield 138, 3) := by decide +kernel
theorem dX6_isAllowed_60 : decode cX6_isAllowed 60 = .ok (.iaload, 1) := by decide +kernel
theorem dX6_isAllowed_61 : decode cX6_isAllowed 61 = .ok (.if_icmp .gt 7, 3) := by decide +kernel
theorem dX6_isAllowed_64 : decode cX6_isAllowed 64 = .ok (.iconst 1, 1) := by decide +kernel
theorem dX6_isAllowed_65 : decode cX6_isAllowed 65 = .ok (.goto 4, 3) := by decide +kernel
theorem dX6_isAllowed_68 : decode cX6_isAllowed 68 = .ok (.iconst 0, 1) := by decide +kernel
theorem dX6_isAllowed_69 : decode cX6_isAllowed 69 = .ok (.ireturn, 1) := by decide +kernel
theorem dX6_isOpen_0 : decode cX6_isOpen 0 = .ok (.aload_n 0, 1) := by decide +kernel
theorem dX6_isOpen_1 : decode cX6_isOpen 1 = .ok (.getfield 274, 3) := by decide +kernel
theorem dX6_isOpen_4 : decode cX6_isOpen 4 = .ok (.ifCond .ne 28, 3) := by decide +kernel
theorem dX6_isOpen_7 : decode cX6_isOpen 7 = .ok (.aload_n 0, 1) := by decide +kernel
theorem dX6_isOpen_8 : decode cX6_isOpen 8 = .ok (.getfield 260, 3) := by decide +kernel
theorem dX6_isOpen_11 : decode cX6_isOpen 11 = .ok (.ifnull 17, 3) := by decide +kernel
theorem dX6_isOpen_14 : decode cX6_isOpen 14 = .ok (.iload_n 1, 1) := by decide +kernel
theorem dX6_isOpen_15 : decode cX6_isOpen 15 = .ok (.aload_n 0, 1) := by decide +kernel
theorem dX6_isOpen_16 : decode cX6_isOpen 16 = .ok (.getfield 260, 3) := by decide +kernel
theorem dX6_isOpen_19 : decode cX6_isOpen 19 = .ok (.getfield 389, 3) := by decide +kernel
theorem dX6_isOpen_22 : decode cX6_isOpen 22 = .ok (.invokestatic 295, 3) := by decide +kernel
theorem dX6_isOpen_25 : decode cX6_isOpen 25 = .ok (.ifCond .ne 7, 3) := by decide +kernel
theorem dX6_isOpen_28 : decode cX6_isOpen 28 = .ok (.iconst 1, 1) := by decide +kernel
theorem dX6_isOpen_29 : decode cX6_isOpen 29 = .ok (.goto 4, 3) := by decide +kernel
theorem dX6_isOpen_32 : decode cX6_isOpen 32 = .ok (.iconst 0, 1) := by decide +kernel
theorem dX6_isOpen_33 : decode cX6_isOpen 33 = .ok (.ireturn, 1) := by decide +kernel
theorem dX6_countOpenEnds_0 : decode cX6_countOpenEnds 0 = .ok (.iconst 0, 1) := by decide +kernel
theorem dX6_countOpenEnds_1 : decode cX6_countOpenEnds 1 = .ok (.istore_n 2, 1) := by decide +kernel
theorem dX6_countOpenEnds_2 : decode cX6_countOpenEnds 2 = .ok (.iconst 0, 1) := by decide +kernel
theorem dX6_countOpenEnds_3 : decode cX6_countOpenEnds 3 = .ok (.istore_n 3, 1) := by decide +kernel
theorem dX6_countOpenEnds_4 : decode cX6_countOpenEnds 4 = .ok (.iload_n 3, 1) := by decide +kernel
theorem dX6_countOpenEnds_5 : decode cX6_countOpenEnds 5 = .ok (.aload_n 0, 1) := by decide +kernel
theorem dX6_countOpenEnds_6 : decode cX6_countOpenEnds 6 = .ok (.getfield 43, 3) := by decide +kernel
theorem dX6_countOpenEnds_9 : decode cX6_countOpenEnds 9 = .ok (.if_icmp .ge 65, 3) := by decide +kernel
theorem dX6_countOpenEnds_12 : decode cX6_countOpenEnds 12 = .ok (.iload_n 1, 1) := by decide +kernel
theorem dX6_countOpenEnds_13 : decode cX6_countOpenEnds 13 = .ok (.iload_n 3, 1) := by decide +kernel
theorem dX6_countOpenEnds_14 : decode cX6_countOpenEnds 14 = .ok (.invokestatic 295, 3) := by decide +kernel
theorem dX6_countOpenEnds_17 : decode cX6_countOpenEnds 17 = .ok (.ifCond .eq 51, 3) := by decide +kernel
theorem dX6_countOpenEnds_20 : decode cX6_countOpenEnds 20 = .ok (.iload_n 2, 1) := by decide +kernel
theorem dX6_countOpenEnds_21 : decode cX6_countOpenEnds 21 = .ok (.aload_n 0, 1) := by decide +kernel
theorem dX6_countOpenEnds_22 : decode cX6_countOpenEnds 22 = .ok (.getfield 11, 3) := by decide +kernel
theorem dX6_countOpenEnds_25 : decode cX6_countOpenEnds 25 = .ok (.iload_n 3, 1) := by decide +kernel
theorem dX6_countOpenEnds_26 : decode cX6_countOpenEnds 26 = .ok (.aaload, 1) := by decide +kernel
theorem dX6_countOpenEnds_27 : decode cX6_countOpenEnds 27 = .ok (.getfield 361, 3) := by decide +kernel
theorem dX6_countOpenEnds_30 : decode cX6_countOpenEnds 30 = .ok (.iload_n 1, 1) := by decide +kernel
theorem dX6_countOpenEnds_31 : decode cX6_countOpenEnds 31 = .ok (.invokestatic 392, 3) := by decide +kernel
theorem dX6_countOpenEnds_34 : decode cX6_countOpenEnds 34 = .ok (.ifCond .eq 7, 3) := by decide +kernel
theorem dX6_countOpenEnds_37 : decode cX6_countOpenEnds 37 = .ok (.iconst 1, 1) := by decide +kernel
theorem dX6_countOpenEnds_38 : decode cX6_countOpenEnds 38 = .ok (.goto 4, 3) := by decide +kernel
theorem dX6_countOpenEnds_41 : decode cX6_countOpenEnds 41 = .ok (.iconst 0, 1) := by decide +kernel
theorem dX6_countOpenEnds_42 : decode cX6_countOpenEnds 42 = .ok (.iadd, 1) := by decide +kernel
theorem dX6_countOpenEnds_43 : decode cX6_countOpenEnds 43 = .ok (.istore_n 2, 1) := by decide +kernel
theorem dX6_countOpenEnds_44 : decode cX6_countOpenEnds 44 = .ok (.iload_n 2, 1) := by decide +kernel
theorem dX6_countOpenEnds_45 : decode cX6_countOpenEnds 45 = .ok (.aload_n 0, 1) := by decide +kernel
theorem dX6_countOpenEnds_46 : decode cX6_countOpenEnds 46 = .ok (.getfield 11, 3) := by decide +kernel
theorem dX6_countOpenEnds_49 : decode cX6_countOpenEnds 49 = .ok (.iload_n 3, 1) := by decide +kernel
theorem dX6_countOpenEnds_50 : decode cX6_countOpenEnds 50 = .ok (.aaload, 1) := by decide +kernel
theorem dX6_countOpenEnds_51 : decode cX6_countOpenEnds 51 = .ok (.getfield 367, 3) := by decide +kernel
theorem dX6_countOpenEnds_54 : decode cX6_countOpenEnds 54 = .ok (.iload_n 1, 1) := by decide +kernel
theorem dX6_countOpenEnds_55 : decode cX6_countOpenEnds 55 = .ok (.invokestatic 392, 3) := by decide +kernel
theorem dX6_countOpenEnds_58 : decode cX6_countOpenEnds 58 = .ok (.ifCond .eq 7, 3) := by decide +kernel
theorem dX6_countOpenEnds_61 : decode cX6_countOpenEnds 61 = .ok (.iconst 1, 1) := by decide +kernel
theorem dX6_countOpenEnds_62 : decode cX6_countOpenEnds 62 = .ok (.goto 4, 3) := by decide +kernel
theorem dX6_countOpenEnds_65 : decode cX6_countOpenEnds 65 = .ok (.iconst 0, 1) := by decide +kernel
theorem dX6_countOpenEnds_66 : decode cX6_countOpenEnds 66 = .ok (.iadd, 1) := by decide +kernel
theorem dX6_countOpenEnds_67 : decode cX6_countOpenEnds 67 = .ok (.istore_n 2, 1) := by decide +kernel
theorem dX6_countOpenEnds_68 : decode cX6_countOpenEnds 68 = .ok (.iinc 3 1, 3) := by decide +kernel
theorem dX6_countOpenEnds_71 : decode cX6_countOpenEnds 71 = .ok (.goto (-67), 3) := by decide +kernel
theorem dX6_countOpenEnds_74 : decode cX6_countOpenEnds 74 = .ok (.iload_n 2, 1) := by decide +kernel
theorem dX6_countOpenEnds_75 : decode cX6_countOpenEnds 75 = .ok (.ireturn, 1) := by decide +kernel
theorem dX6_isTestable_0 : decode cX6_isTestable 0 = .ok (.iconst 0, 1) := by decide +kernel
theorem dX6_isTestable_1 : decode cX6_isTestable 1 = .ok (.istore_n 2, 1) := by decide +kernel
theorem dX6_isTestable_2 : decode cX6_isTestable 2 = .ok (.iload_n 2, 1) := by decide +kernel
theorem dX6_isTestable_3 : decode cX6_isTestable 3 = .ok (.aload_n 0, 1) := by decide +kernel
theorem dX6_isTestable_4 : decode cX6_isTestable 4 = .ok (.getfield 43, 3) := by decide +kernel
theorem dX6_isTestable_7 : decode cX6_isTestable 7 = .ok (.if_icmp .ge 31, 3) := by decide +kernel
theorem dX6_isTestable_10 : decode cX6_isTestable 10 = .ok (.iload_n 1, 1) := by decide +kernel
theorem dX6_isTestable_11 : decode cX6_isTestable 11 = .ok (.iload_n 2, 1) := by decide +kernel
theorem dX6_isTestable_12 : decode cX6_isTestable 12 = .ok (.invokestatic 295, 3) := by decide +kernel
theorem dX6_isTestable_15 : decode cX6_isTestable 15 = .ok (.ifCond .eq 17, 3) := by decide +kernel
theorem dX6_isTestable_18 : decode cX6_isTestable 18 = .ok (.aload_n 0, 1) := by decide +kernel
theorem dX6_isTestable_19 : decode cX6_isTestable 19 = .ok (.getfield 11, 3) := by decide +kernel
theorem dX6_isTestable_22 : decode cX6_isTestable 22 = .ok (.iload_n 2, 1) := by decide +kernel
theorem dX6_isTestable_23 : decode cX6_isTestable 23 = .ok (.aaload, 1) := by decide +kernel
theorem dX6_isTestable_24 : decode cX6_isTestable 24 = .ok (.invokevirtual 396, 3) := by decide +kernel
theorem dX6_isTestable_27 : decode cX6_isTestable 27 = .ok (.ifCond .ne 5, 3) := by decide +kernel
theorem dX6_isTestable_30 : decode cX6_isTestable 30 = .ok (.iconst 0, 1) := by decide +kernel
theorem dX6_isTestable_31 : decode cX6_isTestable 31 = .ok (.ireturn, 1) := by decide +kernel
theorem dX6_isTestable_32 : decode cX6_isTestable 32 = .ok (.iinc 2 1, 3) := by decide +kernel
theorem dX6_isTestable_35 : decode cX6_isTestable 35 = .ok (.goto (-33), 3) := by decide +kernel
theorem dX6_isTestable_38 : decode cX6_isTestable 38 = .ok (.aload_n 0, 1) := by decide +kernel
theorem dX6_isTestable_39 : decode cX6_isTestable 39 = .ok (.iload_n 1, 1) := by decide +kernel
theorem dX6_isTestable_40 : decode cX6_isTestable 40 = .ok (.invokevirtual 287, 3) := by decide +kernel
theorem dX6_isTestable_43 : decode cX6_isTestable 43 = .ok (.ifCond .ne 7, 3) := by decide +kernel
theorem dX6_isTestable_46 : decode cX6_isTestable 46 = .ok (.iconst 1, 1) := by decide +kernel
theorem dX6_isTestable_47 : decode cX6_isTestable 47 = .ok (.goto 4, 3) := by decide +kernel
theorem dX6_isTestable_50 : decode cX6_isTestable 50 = .ok (.iconst 0, 1) := by decide +kernel
theorem dX6_isTestable_51 : decode cX6_isTestable 51 = .ok (.ireturn, 1) := by decide +kernel
theorem dX6_countLacking_0 : decode cX6_countLacking 0 = .ok (.iconst 0, 1) := by decide +kernel
theorem dX6_countLacking_1 : decode cX6_countLacking 1 = .ok (.istore_n 2, 1) := by decide +kernel
theorem dX6_countLacking_2 : decode cX6_countLacking 2 = .ok (.iconst 0, 1) := by decide +kernel
theorem dX6_countLacking_3 : decode cX6_countLacking 3 = .ok (.istore_n 3, 1) := by decide +kernel
theorem dX6_countLacking_4 : decode cX6_countLacking 4 = .ok (.iload_n 3, 1) := by decide +kernel
theorem dX6_countLacking_5 : decode cX6_countLacking 5 = .ok (.aload_n 0, 1) := by decide +kernel
theorem dX6_countLacking_6 : decode cX6_countLacking 6 = .ok (.getfield 43, 3) := by decide +kernel
theorem dX6_countLacking_9 : decode cX6_countLacking 9 = .ok (.if_icmp .ge 50, 3) := by decide +kernel
theorem dX6_countLacking_12 : decode cX6_countLacking 12 = .ok (.iconst 0, 1) := by decide +kernel
theorem dX6_countLacking_13 : decode cX6_countLacking 13 = .ok (.istore 4, 2) := by decide +kernel
theorem dX6_countLacking_15 : decode cX6_countLacking 15 = .ok (.iload 4, 2) := by decide +kernel
theorem dX6_countLacking_17 : decode cX6_countLacking 17 = .ok (.aload_n 0, 1) := by decide +kernel
theorem dX6_countLacking_18 : decode cX6_countLacking 18 = .ok (.getfield 11, 3) := by decide +kernel
theorem dX6_countLacking_21 : decode cX6_countLacking 21 = .ok (.iload_n 3, 1) := by decide +kernel
theorem dX6_countLacking_22 : decode cX6_countLacking 22 = .ok (.aaload, 1) := by decide +kernel
theorem dX6_countLacking_23 : decode cX6_countLacking 23 = .ok (.invokevirtual 338, 3) := by decide +kernel
theorem dX6_countLacking_26 : decode cX6_countLacking 26 = .ok (.if_icmp .ge 27, 3) := by decide +kernel
theorem dX6_countLacking_29 : decode cX6_countLacking 29 = .ok (.aload_n 0, 1) := by decide +kernel
theorem dX6_countLacking_30 : decode cX6_countLacking 30 = .ok (.getfield 11, 3) := by decide +kernel
theorem dX6_countLacking_33 : decode cX6_countLacking 33 = .ok (.iload_n 3, 1) := by decide +kernel
theorem dX6_countLacking_34 : decode cX6_countLacking 34 = .ok (.aaload, 1) := by decide +kernel
theorem dX6_countLacking_35 : decode cX6_countLacking 35 = .ok (.iload 4, 2) := by decide +kernel
theorem dX6_countLacking_37 : decode cX6_countLacking 37 = .ok (.invokevirtual 298, 3) := by decide +kernel
theorem dX6_countLacking_40 : decode cX6_countLacking 40 = .ok (.iload_n 1, 1) := by decide +kernel
theorem dX6_countLacking_41 : decode cX6_countLacking 41 = .ok (.if_icmp .ne 6, 3) := by decide +kernel
theorem dX6_countLacking_44 : decode cX6_countLacking 44 = .ok (.iinc 2 1, 3) := by decide +kernel
theorem dX6_countLacking_47 : decode cX6_countLacking 47 = .ok (.iinc 4 1, 3) := by decide +kernel
theorem dX6_countLacking_50 : decode cX6_countLacking 50 = .ok (.goto (-35), 3) := by decide +kernel
theorem dX6_countLacking_53 : decode cX6_countLacking 53 = .ok (.iinc 3 1, 3) := by decide +kernel
theorem dX6_countLacking_56 : decode cX6_countLacking 56 = .ok (.goto (-52), 3) := by decide +kernel
theorem dX6_countLacking_59 : decode cX6_countLacking 59 = .ok (.iload_n 2, 1) := by decide +kernel
theorem dX6_countLacking_60 : decode cX6_countLacking 60 = .ok (.ireturn, 1) := by decide +kernel
theorem dX6_allAheadOf_0 : decode cX6_allAheadOf 0 = .ok (.aload_n 0, 1) := by decide +kernel
theorem dX6_allAheadOf_1 : decode cX6_allAheadOf 1 = .ok (.getfield 11, 3) := by decide +kernel
theorem dX6_allAheadOf_4 : decode cX6_allAheadOf 4 = .ok (.iload_n 1, 1) := by decide +kernel
theorem dX6_allAheadOf_5 : decode cX6_allAheadOf 5 = .ok (.aaload, 1) := by decide +kernel
theorem dX6_allAheadOf_6 : decode cX6_allAheadOf 6 = .ok (.getfield 322, 3) := by decide +kernel
theorem dX6_allAheadOf_9 : decode cX6_allAheadOf 9 = .ok (.istore_n 2, 1) := by decide +kernel
theorem dX6_allAheadOf_10 : decode cX6_allAheadOf 10 = .ok (.iconst 0, 1) := by decide +kernel
theorem dX6_allAheadOf_11 : decode cX6_allAheadOf 11 = .ok (.istore_n 3, 1) := by decide +kernel
theorem dX6_allAheadOf_12 : decode cX6_allAheadOf 12 = .ok (.iload_n 3, 1) := by decide +kernel
theorem dX6_allAheadOf_13 : decode cX6_allAheadOf 13 = .ok (.aload_n 0, 1) := by decide +kernel
theorem dX6_allAheadOf_14 : decode cX6_allAheadOf 14 = .ok (.getfield 43, 3) := by decide +kernel
theorem dX6_allAheadOf_17 : decode cX6_allAheadOf 17 = .ok (.if_icmp .ge 49, 3) := by decide +kernel
theorem dX6_allAheadOf_20 : decode cX6_allAheadOf 20 = .ok (.iconst 0, 1) := by decide +kernel
theorem dX6_allAheadOf_21 : decode cX6_allAheadOf 21 = .ok (.istore 4, 2) := by decide +kernel
theorem dX6_allAheadOf_23 : decode cX6_allAheadOf 23 = .ok (.iload 4, 2) := by decide +kernel
theorem dX6_allAheadOf_25 : decode cX6_allAheadOf 25 = .ok (.aload_n 0, 1) := by decide +kernel
theorem dX6_allAheadOf_26 : decode cX6_allAheadOf 26 = .ok (.getfield 43, 3) := by decide +kernel
theorem dX6_allAheadOf_29 : decode cX6_allAheadOf 29 = .ok (.if_icmp .ge 31, 3) := by decide +kernel
theorem dX6_allAheadOf_32 : decode cX6_allAheadOf 32 = .ok (.iload_n 2, 1) := by decide +kernel
theorem dX6_allAheadOf_33 : decode cX6_allAheadOf 33 = .ok (.iload 4, 2) := by decide +kernel
theorem dX6_allAheadOf_35 : decode cX6_allAheadOf 35 = .ok (.invokestatic 295, 3) := by decide +kernel
theorem dX6_allAheadOf_38 : decode cX6_allAheadOf 38 = .ok (.ifCond .eq 16, 3) := by decide +kernel
theorem dX6_allAheadOf_41 : decode cX6_allAheadOf 41 = .ok (.iload_n 2, 1) := by decide +kernel
theorem dX6_allAheadOf_42 : decode cX6_allAheadOf 42 = .ok (.aload_n 0, 1) := by decide +kernel
theorem dX6_allAheadOf_43 : decode cX6_allAheadOf 43 = .ok (.getfield 11, 3) := by decide +kernel
theorem dX6_allAheadOf_46 : decode cX6_allAheadOf 46 = .ok (.iload 4, 2) := by decide +kernel
theorem dX6_allAheadOf_48 : decode cX6_allAheadOf 48 = .ok (.aaload, 1) := by decide +kernel
theorem dX6_allAheadOf_49 : decode cX6_allAheadOf 49 = .ok (.getfield 322, 3) := by decide +kernel
theorem dX6_allAheadOf_52 : decode cX6_allAheadOf 52 = .ok (.ior, 1) := by decide +kernel
theorem dX6_allAheadOf_53 : decode cX6_allAheadOf 53 = .ok (.istore_n 2, 1) := by decide +kernel
theorem dX6_allAheadOf_54 : decode cX6_allAheadOf 54 = .ok (.iinc 4 1, 3) := by decide +kernel
theorem dX6_allAheadOf_57 : decode cX6_allAheadOf 57 = .ok (.goto (-34), 3) := by decide +kernel
theorem dX6_allAheadOf_60 : decode cX6_allAheadOf 60 = .ok (.iinc 3 1, 3) := by decide +kernel
theorem dX6_allAheadOf_63 : decode cX6_allAheadOf 63 = .ok (.goto (-51), 3) := by decide +kernel
theorem dX6_allAheadOf_66 : decode cX6_allAheadOf 66 = .ok (.iload_n 2, 1) := by decide +kernel
theorem dX6_allAheadOf_67 : decode cX6_allAheadOf 67 = .ok (.ireturn, 1) := by decide +kernel
theorem dX6_nextOver_0 : decode cX6_nextOver 0 = .ok (.iconst 0, 1) := by decide +kernel
theorem dX6_nextOver_1 : decode cX6_nextOver 1 = .ok (.istore_n 2, 1) := by decide +kernel
theorem dX6_nextOver_2 : decode cX6_nextOver 2 = .ok (.iload_n 2, 1) := by decide +kernel
theorem dX6_nextOver_3 : decode cX6_nextOver 3 = .ok (.aload_n 0, 1) := by decide +kernel
theorem dX6_nextOver_4 : decode cX6_nextOver 4 = .ok (.getfield 43, 3) := by decide +kernel
theorem dX6_nextOver_7 : decode cX6_nextOver 7 = .ok (.if_icmp .ge 35, 3) := by decide +kernel
theorem dX6_nextOver_10 : decode cX6_nextOver 10 = .ok (.iload_n 1, 1) := by decide +kernel
theorem dX6_nextOver_11 : decode cX6_nextOver 11 = .ok (.iload_n 2, 1) := by decide +kernel
theorem dX6_nextOver_12 : decode cX6_nextOver 12 = .ok (.invokestatic 295, 3) := by decide +kernel
theorem dX6_nextOver_15 : decode cX6_nextOver 15 = .ok (.ifCond .ne 21, 3) := by decide +kernel
theorem dX6_nextOver_18 : decode cX6_nextOver 18 = .ok (.aload_n 0, 1) := by decide +kernel
theorem dX6_nextOver_19 : decode cX6_nextOver 19 = .ok (.getfield 11, 3) := by decide +kernel
theorem dX6_nextOver_22 : decode cX6_nextOver 22 = .ok (.iload_n 2, 1) := by decide +kernel
theorem dX6_nextOver_23 : decode cX6_nextOver 23 = .ok (.aaload, 1) := by decide +kernel
theorem dX6_nextOver_24 : decode cX6_nextOver 24 = .ok (.getfield 322, 3) := by decide +kernel
theorem dX6_nextOver_27 : decode cX6_nextOver 27 = .ok (.iload_n 1, 1) := by decide +kernel
theorem dX6_nextOver_28 : decode cX6_nextOver 28 = .ok (.iconst (-1), 1) := by decide +kernel
theorem dX6_nextOver_29 : decode cX6_nextOver 29 = .ok (.ixor, 1) := by decide +kernel
theorem dX6_nextOver_30 : decode cX6_nextOver 30 = .ok (.iand, 1) := by decide +kernel
theorem dX6_nextOver_31 : decode cX6_nextOver 31 = .ok (.ifCond .ne 5, 3) := by decide +kernel
theorem dX6_nextOver_34 : decode cX6_nextOver 34 = .ok (.iload_n 2, 1) := by decide +kernel
theorem dX6_nextOver_35 : decode cX6_nextOver 35 = .ok (.ireturn, 1) := by decide +kernel
theorem dX6_nextOver_36 : decode cX6_nextOver 36 = .ok (.iinc 2 1, 3) := by decide +kernel
theorem dX6_nextOver_39 : decode cX6_nextOver 39 = .ok (.goto (-37), 3) := by decide +kernel
theorem dX6_nextOver_42 : decode cX6_nextOver 42 = .ok (.iconst (-1), 1) := by decide +kernel
theorem dX6_nextOver_43 : decode cX6_nextOver 43 = .ok (.ireturn, 1) := by decide +kernel
theorem dX6_sizeGivenFrom_0 : decode cX6_sizeGivenFrom 0 = .ok (.iconst 0, 1) := by decide +kernel
theorem dX6_sizeGivenFrom_1 : decode cX6_sizeGivenFrom 1 = .ok (.istore_n 2, 1) := by decide +kernel
theorem dX6_sizeGivenFrom_2 : decode cX6_sizeGivenFrom 2 = .ok (.iconst 0, 1) := by decide +kernel
theorem dX6_sizeGivenFrom_3 : decode cX6_sizeGivenFrom 3 = .ok (.istore_n 3, 1) := by decide +kernel
theorem dX6_sizeGivenFrom_4 : decode cX6_sizeGivenFrom 4 = .ok (.iload_n 3, 1) := by decide +kernel
theorem dX6_sizeGivenFrom_5 : decode cX6_sizeGivenFrom 5 = .ok (.aload_n 0, 1) := by decide +kernel
theorem dX6_sizeGivenFrom_6 : decode cX6_sizeGivenFrom 6 = .ok (.getfield 43, 3) := by decide +kernel
theorem dX6_sizeGivenFrom_9 : decode cX6_sizeGivenFrom 9 = .ok (.if_icmp .ge 67, 3) := by decide +kernel
theorem dX6_sizeGivenFrom_12 : decode cX6_sizeGivenFrom 12 = .ok (.iconst 0, 1) := by decide +kernel
theorem dX6_sizeGivenFrom_13 : decode cX6_sizeGivenFrom 13 = .ok (.istore 4, 2) := by decide +kernel
theorem dX6_sizeGivenFrom_15 : decode cX6_sizeGivenFrom 15 = .ok (.iload 4, 2) := by decide +kernel
theorem dX6_sizeGivenFrom_17 : decode cX6_sizeGivenFrom 17 = .ok (.aload_n 0, 1) := by decide +kernel
theorem dX6_sizeGivenFrom_18 : decode cX6_sizeGivenFrom 18 = .ok (.getfield 11, 3) := by decide +kernel
theorem dX6_sizeGivenFrom_21 : decode cX6_sizeGivenFrom 21 = .ok (.iload_n 3, 1) := by decide +kernel
theorem dX6_sizeGivenFrom_22 : decode cX6_sizeGivenFrom 22 = .ok (.aaload, 1) := by decide +kernel
theorem dX6_sizeGivenFrom_23 : decode cX6_sizeGivenFrom 23 = .ok (.getfield 71, 3) := by decide +kernel
theorem dX6_sizeGivenFrom_26 : decode cX6_sizeGivenFrom 26 = .ok (.if_icmp .ge 44, 3) := by decide +kernel
theorem dX6_sizeGivenFrom_29 : decode cX6_sizeGivenFrom 29 = .ok (.aload_n 0, 1) := by decide +kernel
theorem dX6_sizeGivenFrom_30 : decode cX6_sizeGivenFrom 30 = .ok (.getfield 11, 3) := by decide +kernel
theorem dX6_sizeGivenFrom_33 : decode cX6_sizeGivenFrom 33 = .ok (.iload_n 3, 1) := by decide +kernel
theorem dX6_sizeGivenFrom_34 : decode cX6_sizeGivenFrom 34 = .ok (.aaload, 1) := by decide +kernel
theorem dX6_sizeGivenFrom_35 : decode cX6_sizeGivenFrom 35 = .ok (.getfield 379, 3) := by decide +kernel
theorem dX6_sizeGivenFrom_38 : decode cX6_sizeGivenFrom 38 = .ok (.iload 4, 2) := by decide +kernel
theorem dX6_sizeGivenFrom_40 : decode cX6_sizeGivenFrom 40 = .ok (.aaload, 1) := by decide +kernel
theorem dX6_sizeGivenFrom_41 : decode cX6_sizeGivenFrom 41 = .ok (.astore 5, 2) := by decide +kernel
theorem dX6_sizeGivenFrom_43 : decode cX6_sizeGivenFrom 43 = .ok (.iload_n 2, 1) := by decide +kernel
theorem dX6_sizeGivenFrom_44 : decode cX6_sizeGivenFrom 44 = .ok (.aload 5, 2) := by decide +kernel
theorem dX6_sizeGivenFrom_46 : decode cX6_sizeGivenFrom 46 = .ok (.getfield 159, 3) := by decide +kernel
theorem dX6_sizeGivenFrom_49 : decode cX6_sizeGivenFrom 49 = .ok (.aload_n 1, 1) := by decide +kernel
theorem dX6_sizeGivenFrom_50 : decode cX6_sizeGivenFrom 50 = .ok (.if_acmp .ne 11, 3) := by decide +kernel
theorem dX6_sizeGivenFrom_53 : decode cX6_sizeGivenFrom 53 = .ok (.aload 5, 2) := by decide +kernel
theorem dX6_sizeGivenFrom_55 : decode cX6_sizeGivenFrom 55 = .ok (.getfield 90, 3) := by decide +kernel
theorem dX6_sizeGivenFrom_58 : decode cX6_sizeGivenFrom 58 = .ok (.goto 4, 3) := by decide +kernel
theorem dX6_sizeGivenFrom_61 : decode cX6_sizeGivenFrom 61 = .ok (.iconst 0, 1) := by decide +kernel
theorem dX6_sizeGivenFrom_62 : decode cX6_sizeGivenFrom 62 = .ok (.iadd, 1) := by decide +kernel
theorem dX6_sizeGivenFrom_63 : decode cX6_sizeGivenFrom 63 = .ok (.istore_n 2, 1) := by decide +kernel
theorem dX6_sizeGivenFrom_64 : decode cX6_sizeGivenFrom 64 = .ok (.iinc 4 1, 3) := by decide +kernel
theorem dX6_sizeGivenFrom_67 : decode cX6_sizeGivenFrom 67 = .ok (.goto (-52), 3) := by decide +kernel
theorem dX6_sizeGivenFrom_70 : decode cX6_sizeGivenFrom 70 = .ok (.iinc 3 1, 3) := by decide +kernel
theorem dX6_sizeGivenFrom_73 : decode cX6_sizeGivenFrom 73 = .ok (.goto (-69), 3) := by decide +kernel
theorem dX6_sizeGivenFrom_76 : decode cX6_sizeGivenFrom 76 = .ok (.iload_n 2, 1) := by decide +kernel
theorem dX6_sizeGivenFrom_77 : decode cX6_sizeGivenFrom 77 = .ok (.ireturn, 1) := by decide +kernel
theorem dX7_init_0 : decode cX7_init 0 = .ok (.aload_n 0, 1) := by decide +kernel
theorem dX7_init_1 : decode cX7_init 1 = .ok (.invokespecial 1, 3) := by decide +kernel
theorem dX7_init_4 : decode cX7_init 4 = .ok (.aload_n 0, 1) := by decide +kernel
theorem dX7_init_5 : decode cX7_init 5 = .ok (.iload_n 1, 1) := by decide +kernel
theorem dX7_init_6 : decode cX7_init 6 = .ok (.putfield 7, 3) := by decide +kernel
theorem dX7_init_9 : decode cX7_init 9 = .ok (.aload_n 0, 1) := by decide +kernel
theorem dX7_init_10 : decode cX7_init 10 = .ok (.iload_n 2, 1) := by decide +kernel
theorem dX7_init_11 : decode cX7_init 11 = .ok (.putfield 13, 3) := by decide +kernel
theorem dX7_init_14 : decode cX7_init 14 = .ok (.aload_n 0, 1) := by decide +kernel
theorem dX7_init_15 : decode cX7_init 15 = .ok (.iload_n 3, 1) := by decide +kernel
theorem dX7_init_16 : decode cX7_init 16 = .ok (.putfield 16, 3) := by decide +kernel
theorem dX7_init_19 : decode cX7_init 19 = .ok (.return_, 1) := by decide +kernel
theorem dX8_init_0 : decode cX8_init 0 = .ok (.aload_n 0, 1) := by decide +kernel
theorem dX8_init_1 : decode cX8_init 1 = .ok (.invokespecial 3, 3) := by decide +kernel
theorem dX8_init_4 : decode cX8_init 4 = .ok (.aload_n 0, 1) := by decide +kernel
theorem dX8_init_5 : decode cX8_init 5 = .ok (.bipush 110, 2) := by decide +kernel
theorem dX8_init_7 : decode cX8_init 7 = .ok (.putfield 9, 3) := by decide +kernel
theorem dX8_init_10 : decode cX8_init 10 = .ok (.aload_n 0, 1) := by decide +kernel
theorem dX8_init_11 : decode cX8_init 11 = .ok (.iconst (-1), 1) := by decide +kernel
theorem dX8_init_12 : decode cX8_init 12 = .ok (.putfield 15, 3) := by decide +kernel
theorem dX8_init_15 : decode cX8_init 15 = .ok (.return_, 1) := by decide +kernel
theorem dX9_init_0 : decode cX9_init 0 = .ok (.aload_n 0, 1) := by decide +kernel
theorem dX9_init_1 : decode cX9_init 1 = .ok (.invokespecial 3, 3) := by decide +kernel
theorem dX9_init_4 : decode cX9_init 4 = .ok (.aload_n 0, 1) := by decide +kernel
theorem dX9_init_5 : decode cX9_init 5 = .ok (.new 9, 3) := by decide +kernel
theorem dX9_init_8 : decode cX9_init 8 = .ok (.dup, 1) := by decide +kernel
theorem dX9_init_9 : decode cX9_init 9 = .ok (.invokespecial 11, 3) := by decide +kernel
theorem dX9_init_12 : decode cX9_init 12 = .ok (.putfield 12, 3) := by decide +kernel
theorem dX9_init_15 : decode cX9_init 15 = .ok (.aload_n 0, 1) := by decide +kernel
theorem dX9_init_16 : decode cX9_init 16 = .ok (.new 9, 3) := by decide +kernel
theorem dX9_init_19 : decode cX9_init 19 = .ok (.dup, 1) := by decide +kernel
theorem dX9_init_20 : decode cX9_init 20 = .ok (.invokespecial 11, 3) := by decide +kernel
theorem dX9_init_23 : decode cX9_init 23 = .ok (.putfield 18, 3) := by decide +kernel
theorem dX9_init_26 : decode cX9_init 26 = .ok (.aload_n 0, 1) := by decide +kernel
theorem dX9_init_27 : decode cX9_init 27 = .ok (.iconst 2, 1) := by decide +kernel
theorem dX9_init_28 : decode cX9_init 28 = .ok (.newarray .int, 2) := by decide +kernel
theorem dX9_init_30 : decode cX9_init 30 = .ok (.dup, 1) := by decide +kernel
theorem dX9_init_31 : decode cX9_init 31 = .ok (.iconst 0, 1) := by decide +kernel
theorem dX9_init_32 : decode cX9_init 32 = .ok (.iconst (-1), 1) := by decide +kernel
theorem dX9_init_33 : decode cX9_init 33 = .ok (.iastore, 1) := by decide +kernel
theorem dX9_init_34 : decode cX9_init 34 = .ok (.dup, 1) := by decide +kernel
theorem dX9_init_35 : decode cX9_init 35 = .ok (.iconst 1, 1) := by decide +kernel
theorem dX9_init_36 : decode cX9_init 36 = .ok (.iconst (-1), 1) := by decide +kernel
theorem dX9_init_37 : decode cX9_init 37 = .ok (.iastore, 1) := by decide +kernel
theorem dX9_init_38 : decode cX9_init 38 = .ok (.putfield 21, 3) := by decide +kernel
theorem dX9_init_41 : decode cX9_init 41 = .ok (.aload_n 0, 1) := by decide +kernel
theorem dX9_init_42 : decode cX9_init 42 = .ok (.iconst 2, 1) := by decide +kernel
theorem dX9_init_43 : decode cX9_init 43 = .ok (.newarray .boolean, 2) := by decide +kernel
theorem dX9_init_45 : decode cX9_init 45 = .ok (.putfield 25, 3) := by decide +kernel
theorem dX9_init_48 : decode cX9_init 48 = .ok (.aload_n 0, 1) := by decide +kernel
theorem dX9_init_49 : decode cX9_init 49 = .ok (.iload_n 1, 1) := by decide +kernel
theorem dX9_init_50 : decode cX9_init 50 = .ok (.putfield 29, 3) := by decide +kernel
theorem dX9_init_53 : decode cX9_init 53 = .ok (.return_, 1) := by decide +kernel
theorem dX9_length_0 : decode cX9_length 0 = .ok (.iconst 0, 1) := by decide +kernel
theorem dX9_length_1 : decode cX9_length 1 = .ok (.istore_n 1, 1) := by decide +kernel
theorem dX9_length_2 : decode cX9_length 2 = .ok (.aload_n 0, 1) := by decide +kernel
theorem dX9_length_3 : decode cX9_length 3 = .ok (.getfield 12, 3) := by decide +kernel
theorem dX9_length_6 : decode cX9_length 6 = .ok (.invokeinterface 33 1, 5) := by decide +kernel
theorem dX9_length_11 : decode cX9_length 11 = .ok (.astore_n 2, 1) := by decide +kernel
theorem dX9_length_12 : decode cX9_length 12 = .ok (.aload_n 2, 1) := by decide +kernel
theorem dX9_length_13 : decode cX9_length 13 = .ok (.invokeinterface 39 1, 5) := by decide +kernel
theorem dX9_length_18 : decode cX9_length 18 = .ok (.ifCond .eq 23, 3) := by decide +kernel
theorem dX9_length_21 : decode cX9_length 21 = .ok (.aload_n 2, 1) := by decide +kernel
theorem dX9_length_22 : decode cX9_length 22 = .ok (.invokeinterface 45 1, 5) := by decide +kernel
theorem dX9_length_27 : decode cX9_length 27 = .ok (.checkcast 49, 3) := by decide +kernel
theorem dX9_length_30 : decode cX9_length 30 = .ok (.astore_n 3, 1) := by decide +kernel
theorem dX9_length_31 : decode cX9_length 31 = .ok (.iload_n 1, 1) := by decide +kernel
theorem dX9_length_32 : decode cX9_length 32 = .ok (.aload_n 3, 1) := by decide +kernel
theorem dX9_length_33 : decode cX9_length 33 = .ok (.getfield 51, 3) := by decide +kernel
theorem dX9_length_36 : decode cX9_length 36 = .ok (.iadd, 1) := by decide +kernel
theorem dX9_length_37 : decode cX9_length 37 = .ok (.istore_n 1, 1) := by decide +kernel
theorem dX9_length_38 : decode cX9_length 38 = .ok (.goto (-26), 3) := by decide +kernel
theorem dX9_length_41 : decode cX9_length 41 = .ok (.iload_n 1, 1) := by decide +kernel
theorem dX9_length_42 : decode cX9_length 42 = .ok (.ireturn, 1) := by decide +kernel
theorem dX9_spool_0 : decode cX9_spool 0 = .ok (.iconst 0, 1) := by decide +kernel
theorem dX9_spool_1 : decode cX9_spool 1 = .ok (.istore_n 2, 1) := by decide +kernel
theorem dX9_spool_2 : decode cX9_spool 2 = .ok (.iconst 0, 1) := by decide +kernel
theorem dX9_spool_3 : decode cX9_spool 3 = .ok (.istore_n 3, 1) := by decide +kernel
theorem dX9_spool_4 : decode cX9_spool 4 = .ok (.iconst 0, 1) := by decide +kernel
theorem dX9_spool_5 : decode cX9_spool 5 = .ok (.istore 4, 2) := by decide +kernel
theorem dX9_spool_7 : decode cX9_spool 7 = .ok (.iconst 0, 1) := by decide +kernel
theorem dX9_spool_8 : decode cX9_spool 8 = .ok (.istore 5, 2) := by decide +kernel
theorem dX9_spool_10 : decode cX9_spool 10 = .ok (.iload 5, 2) := by decide +kernel
theorem dX9_spool_12 : decode cX9_spool 12 = .ok (.iload_n 1, 1) := by decide +kernel
theorem dX9_spool_13 : decode cX9_spool 13 = .ok (.if_icmp .gt 134, 3) := by decide +kernel
theorem dX9_spool_16 : decode cX9_spool 16 = .ok (.iload 5, 2) := by decide +kernel
theorem dX9_spool_18 : decode cX9_spool 18 = .ok (.aload_n 0, 1) := by decide +kernel
theorem dX9_spool_19 : decode cX9_spool 19 = .ok (.getfield 12, 3) := by decide +kernel
theorem dX9_spool_22 : decode cX9_spool 22 = .ok (.invokeinterface 54 1, 5) := by decide +kernel
theorem dX9_spool_27 : decode cX9_spool 27 = .ok (.if_icmp .ge 120, 3) := by decide +kernel
theorem dX9_spool_30 : decode cX9_spool 30 = .ok (.aload_n 0, 1) := by decide +kernel
theorem dX9_spool_31 : decode cX9_spool 31 = .ok (.getfield 12, 3) := by decide +kernel
theorem dX9_spool_34 : decode cX9_spool 34 = .ok (.iload 5, 2) := by decide +kernel
theorem dX9_spool_36 : decode cX9_spool 36 = .ok (.invokeinterface 58 2, 5) := by decide +kernel
theorem dX9_spool_41 : decode cX9_spool 41 = .ok (.checkcast 49, 3) := by decide +kernel
theorem dX9_spool_44 : decode cX9_spool 44 = .ok (.astore 6, 2) := by decide +kernel
theorem dX9_spool_46 : decode cX9_spool 46 = .ok (.iload_n 3, 1) := by decide +kernel
theorem dX9_spool_47 : decode cX9_spool 47 = .ok (.aload 6, 2) := by decide +kernel
theorem dX9_spool_49 : decode cX9_spool 49 = .ok (.getfield 51, 3) := by decide +kernel
theorem dX9_spool_52 : decode cX9_spool 52 = .ok (.iadd, 1) := by decide +kernel
theorem dX9_spool_53 : decode cX9_spool 53 = .ok (.sipush 12000, 3) := by decide +kernel
theorem dX9_spool_56 : decode cX9_spool 56 = .ok (.if_icmp .gt 19, 3) := by decide +kernel
theorem dX9_spool_59 : decode cX9_spool 59 = .ok (.iload 4, 2) := by decide +kernel
theorem dX9_spool_61 : decode cX9_spool 61 = .ok (.iconst 2, 1) := by decide +kernel
theorem dX9_spool_62 : decode cX9_spool 62 = .ok (.if_icmp .ne 17, 3) := by decide +kernel
theorem dX9_spool_65 : decode cX9_spool 65 = .ok (.aload 6, 2) := by decide +kernel
theorem dX9_spool_67 : decode cX9_spool 67 = .ok (.getfield 62, 3) := by decide +kernel
theorem dX9_spool_70 : decode cX9_spool 70 = .ok (.bipush 101, 2) := by decide +kernel
theorem dX9_spool_72 : decode cX9_spool 72 = .ok (.if_icmp .ne 7, 3) := by decide +kernel
theorem dX9_spool_75 : decode cX9_spool 75 = .ok (.iconst 1, 1) := by decide +kernel
theorem dX9_spool_76 : decode cX9_spool 76 = .ok (.goto 4, 3) := by decide +kernel
theorem dX9_spool_79 : decode cX9_spool 79 = .ok (.iconst 0, 1) := by decide +kernel
theorem dX9_spool_80 : decode cX9_spool 80 = .ok (.istore 7, 2) := by decide +kernel
theorem dX9_spool_82 : decode cX9_spool 82 = .ok (.iload_n 2, 1) := by decide +kernel
theorem dX9_spool_83 : decode cX9_spool 83 = .ok (.iload 7, 2) := by decide +kernel
theorem dX9_spool_85 : decode cX9_spool 85 = .ok (.ifCond .eq 7, 3) := by decide +kernel
theorem dX9_spool_88 : decode cX9_spool 88 = .ok (.iconst 1, 1) := by decide +kernel
theorem dX9_spool_89 : decode cX9_spool 89 = .ok (.goto 4, 3) := by decide +kernel
theorem dX9_spool_92 : decode cX9_spool 92 = .ok (.iconst 0, 1) := by decide +kernel
theorem dX9_spool_93 : decode cX9_spool 93 = .ok (.iadd, 1) := by decide +kernel
theorem dX9_spool_94 : decode cX9_spool 94 = .ok (.istore_n 2, 1) := by decide +kernel
theorem dX9_spool_95 : decode cX9_spool 95 = .ok (.iload 7, 2) := by decide +kernel
theorem dX9_spool_97 : decode cX9_spool 97 = .ok (.ifCond .eq 7, 3) := by decide +kernel
theorem dX9_spool_100 : decode cX9_spool 100 = .ok (.iconst 0, 1) := by decide +kernel
theorem dX9_spool_101 : decode cX9_spool 101 = .ok (.goto 4, 3) := by decide +kernel
theorem dX9_spool_104 : decode cX9_spool 104 = .ok (.iload_n 3, 1) := by decide +kernel
theorem dX9_spool_105 : decode cX9_spool 105 = .ok (.aload 6, 2) := by decide +kernel
theorem dX9_spool_107 : decode cX9_spool 107 = .ok (.getfield 51, 3) := by decide +kernel
theorem dX9_spool_110 : decode cX9_spool 110 = .ok (.iadd, 1) := by decide +kernel
theorem dX9_spool_111 : decode cX9_spool 111 = .ok (.istore_n 3, 1) := by decide +kernel
theorem dX9_spool_112 : decode cX9_spool 112 = .ok (.iload 7, 2) := by decide +kernel
theorem dX9_spool_114 : decode cX9_spool 114 = .ok (.ifCond .eq 7, 3) := by decide +kernel
theorem dX9_spool_117 : decode cX9_spool 117 = .ok (.iconst 0, 1) := by decide +kernel
theorem dX9_spool_118 : decode cX9_spool 118 = .ok (.goto 5, 3) := by decide +kernel
theorem dX9_spool_121 : decode cX9_spool 121 = .ok (.iload 4, 2) := by decide +kernel
theorem dX9_spool_123 : decode cX9_spool 123 = .ok (.aload 6, 2) := by decide +kernel
theorem dX9_spool_125 : decode cX9_spool 125 = .ok (.getfield 62, 3) := by decide +kernel
theorem dX9_spool_128 : decode cX9_spool 128 = .ok (.bipush 101, 2) := by decide +kernel
theorem dX9_spool_130 : decode cX9_spool 130 = .ok (.if_icmp .ne 7, 3) := by decide +kernel
theorem dX9_spool_133 : decode cX9_spool 133 = .ok (.iconst 1, 1) := by decide +kernel
theorem dX9_spool_134 : decode cX9_spool 134 = .ok (.goto 4, 3) := by decide +kernel
theorem dX9_spool_137 : decode cX9_spool 137 = .ok (.iconst 0, 1) := by decide +kernel
theorem dX9_spool_138 : decode cX9_spool 138 = .ok (.iadd, 1) := by decide +kernel
theorem dX9_spool_139 : decode cX9_spool 139 = .ok (.istore 4, 2) := by decide +kernel
theorem dX9_spool_141 : decode cX9_spool 141 = .ok (.iinc 5 1, 3) := by decide +kernel
theorem dX9_spool_144 : decode cX9_spool 144 = .ok (.goto (-134), 3) := by decide +kernel
theorem dX9_spool_147 : decode cX9_spool 147 = .ok (.iload_n 2, 1) := by decide +kernel
theorem dX9_spool_148 : decode cX9_spool 148 = .ok (.ireturn, 1) := by decide +kernel
theorem dX9_spools_0 : decode cX9_spools 0 = .ok (.aload_n 0, 1) := by decide +kernel
theorem dX9_spools_1 : decode cX9_spools 1 = .ok (.getfield 12, 3) := by decide +kernel
theorem dX9_spools_4 : decode cX9_spools 4 = .ok (.invokeinterface 66 1, 5) := by decide +kernel
theorem dX9_spools_9 : decode cX9_spools 9 = .ok (.ifCond .eq 7, 3) := by decide +kernel
theorem dX9_spools_12 : decode cX9_spools 12 = .ok (.iconst 0, 1) := by decide +kernel
theorem dX9_spools_13 : decode cX9_spools 13 = .ok (.goto 20, 3) := by decide +kernel
theorem dX9_spools_16 : decode cX9_spools 16 = .ok (.aload_n 0, 1) := by decide +kernel
theorem dX9_spools_17 : decode cX9_spools 17 = .ok (.aload_n 0, 1) := by decide +kernel
theorem dX9_spools_18 : decode cX9_spools 18 = .ok (.getfield 12, 3) := by decide +kernel
theorem dX9_spools_21 : decode cX9_spools 21 = .ok (.invokeinterface 54 1, 5) := by decide +kernel
theorem dX9_spools_26 : decode cX9_spools 26 = .ok (.iconst 1, 1) := by decide +kernel
theorem dX9_spools_27 : decode cX9_spools 27 = .ok (.isub, 1) := by decide +kernel
theorem dX9_spools_28 : decode cX9_spools 28 = .ok (.invokevirtual 69, 3) := by decide +kernel
theorem dX9_spools_31 : decode cX9_spools 31 = .ok (.iconst 1, 1) := by decide +kernel
theorem dX9_spools_32 : decode cX9_spools 32 = .ok (.iadd, 1) := by decide +kernel
theorem dX9_spools_33 : decode cX9_spools 33 = .ok (.ireturn, 1) := by decide +kernel
theorem dX9_many_0 : decode cX9_many 0 = .ok (.iconst 0, 1) := by decide +kernel
theorem dX9_many_1 : decode cX9_many 1 = .ok (.istore_n 2, 1) := by decide +kernel
theorem dX9_many_2 : decode cX9_many 2 = .ok (.aload_n 0, 1) := by decide +kernel
theorem dX9_many_3 : decode cX9_many 3 = .ok (.getfield 18, 3) := by decide +kernel
theorem dX9_many_6 : decode cX9_many 6 = .ok (.invokeinterface 33 1, 5) := by decide +kernel
theorem dX9_many_11 : decode cX9_many 11 = .ok (.astore_n 3, 1) := by decide +kernel
theorem dX9_many_12 : decode cX9_many 12 = .ok (.aload_n 3, 1) := by decide +kernel
theorem dX9_many_13 : decode cX9_many 13 = .ok (.invokeinterface 39 1, 5) := by decide +kernel
theorem dX9_many_18 : decode cX9_many 18 = .ok (.ifCond .eq 37, 3) := by decide +kernel
theorem dX9_many_21 : decode cX9_many 21 = .ok (.aload_n 3, 1) := by decide +kernel
theorem dX9_many_22 : decode cX9_many 22 = .ok (.invokeinterface 45 1, 5) := by decide +kernel
theorem dX9_many_27 : decode cX9_many 27 = .ok (.checkcast 73, 3) := by decide +kernel
theorem dX9_many_30 : decode cX9_many 30 = .ok (.astore 4, 2) := by decide +kernel
theorem dX9_many_32 : decode cX9_many 32 = .ok (.iload_n 2, 1) := by decide +kernel
theorem dX9_many_33 : decode cX9_many 33 = .ok (.aload_n 1, 1) := by decide +kernel
theorem dX9_many_34 : decode cX9_many 34 = .ok (.aload 4, 2) := by decide +kernel
theorem dX9_many_36 : decode cX9_many 36 = .ok (.getfield 75, 3) := by decide +kernel
theorem dX9_many_39 : decode cX9_many 39 = .ok (.invokevirtual 78, 3) := by decide +kernel
theorem dX9_many_42 : decode cX9_many 42 = .ok (.ifCond .lt 7, 3) := by decide +kernel
theorem dX9_many_45 : decode cX9_many 45 = .ok (.iconst 1, 1) := by decide +kernel
theorem dX9_many_46 : decode cX9_many 46 = .ok (.goto 4, 3) := by decide +kernel
theorem dX9_many_49 : decode cX9_many 49 = .ok (.iconst 0, 1) := by decide +kernel
theorem dX9_many_50 : decode cX9_many 50 = .ok (.iadd, 1) := by decide +kernel
theorem dX9_many_51 : decode cX9_many 51 = .ok (.istore_n 2, 1) := by decide +kernel
theorem dX9_many_52 : decode cX9_many 52 = .ok (.goto (-40), 3) := by decide +kernel
theorem dX9_many_55 : decode cX9_many 55 = .ok (.iload_n 2, 1) := by decide +kernel
theorem dX9_many_56 : decode cX9_many 56 = .ok (.ireturn, 1) := by decide +kernel
theorem dX9_toLook_0 : decode cX9_toLook 0 = .ok (.iconst 0, 1) := by decide +kernel
theorem dX9_toLook_1 : decode cX9_toLook 1 = .ok (.aload_n 0, 1) := by decide +kernel
theorem dX9_toLook_2 : decode cX9_toLook 2 = .ok (.getfield 18, 3) := by decide +kernel
theorem dX9_toLook_5 : decode cX9_toLook 5 = .ok (.invokeinterface 54 1, 5) := by decide +kernel
theorem dX9_toLook_10 : decode cX9_toLook 10 = .ok (.aload_n 0, 1) := by decide +kernel
theorem dX9_toLook_11 : decode cX9_toLook 11 = .ok (.getfield 18, 3) := by decide +kernel
theorem dX9_toLook_14 : decode cX9_toLook 14 = .ok (.invokeinterface 54 1, 5) := by decide +kernel
theorem dX9_toLook_19 : decode cX9_toLook 19 = .ok (.getstatic 83, 3) := by decide +kernel
theorem dX9_toLook_22 : decode cX9_toLook 22 = .ok (.aload_n 0, 1) := by decide +kernel
theorem dX9_toLook_23 : decode cX9_toLook 23 = .ok (.getfield 29, 3) := by decide +kernel
theorem dX9_toLook_26 : decode cX9_toLook 26 = .ok (.iaload, 1) := by decide +kernel
theorem dX9_toLook_27 : decode cX9_toLook 27 = .ok (.imul, 1) := by decide +kernel
theorem dX9_toLook_28 : decode cX9_toLook 28 = .ok (.bipush 99, 2) := by decide +kernel
theorem dX9_toLook_30 : decode cX9_toLook 30 = .ok (.iadd, 1) := by decide +kernel
theorem dX9_toLook_31 : decode cX9_toLook 31 = .ok (.bipush 100, 2) := by decide +kernel
theorem dX9_toLook_33 : decode cX9_toLook 33 = .ok (.idiv, 1) := by decide +kernel
theorem dX9_toLook_34 : decode cX9_toLook 34 = .ok (.iconst 2, 1) := by decide +kernel
theorem dX9_toLook_35 : decode cX9_toLook 35 = .ok (.aload_n 0, 1) := by decide +kernel
theorem dX9_toLook_36 : decode cX9_toLook 36 = .ok (.getfield 86, 3) := by decide +kernel
theorem dX9_toLook_39 : decode cX9_toLook 39 = .ok (.imul, 1) := by decide +kernel
theorem dX9_toLook_40 : decode cX9_toLook 40 = .ok (.iadd, 1) := by decide +kernel
theorem dX9_toLook_41 : decode cX9_toLook 41 = .ok (.invokestatic 89, 3) := by decide +kernel
theorem dX9_toLook_44 : decode cX9_toLook 44 = .ok (.aload_n 0, 1) := by decide +kernel
theorem dX9_toLook_45 : decode cX9_toLook 45 = .ok (.ldc 95, 2) := by decide +kernel
theorem dX9_toLook_47 : decode cX9_toLook 47 = .ok (.invokevirtual 97, 3) := by decide +kernel
theorem dX9_toLook_50 : decode cX9_toLook 50 = .ok (.isub, 1) := by decide +kernel
theorem dX9_toLook_51 : decode cX9_toLook 51 = .ok (.invokestatic 101, 3) := by decide +kernel
theorem dX9_toLook_54 : decode cX9_toLook 54 = .ok (.ireturn, 1) := by decide +kernel
theorem dX9_isBlind_0 : decode cX9_isBlind 0 = .ok (.aload_n 0, 1) := by decide +kernel
theorem dX9_isBlind_1 : decode cX9_isBlind 1 = .ok (.getfield 25, 3) := by decide +kernel
theorem dX9_isBlind_4 : decode cX9_isBlind 4 = .ok (.iconst 0, 1) := by decide +kernel
theorem dX9_isBlind_5 : decode cX9_isBlind 5 = .ok (.baload, 1) := by decide +kernel
theorem dX9_isBlind_6 : decode cX9_isBlind 6 = .ok (.ifCond .ne 12, 3) := by decide +kernel
theorem dX9_isBlind_9 : decode cX9_isBlind 9 = .ok (.aload_n 0, 1) := by decide +kernel
theorem dX9_isBlind_10 : decode cX9_isBlind 10 = .ok (.getfield 25, 3) := by decide +kernel
theorem dX9_isBlind_13 : decode cX9_isBlind 13 = .ok (.iconst 1, 1) := by decide +kernel
theorem dX9_isBlind_14 : decode cX9_isBlind 14 = .ok (.baload, 1) := by decide +kernel
theorem dX9_isBlind_15 : decode cX9_isBlind 15 = .ok (.ifCond .eq 7, 3) := by decide +kernel
theorem dX9_isBlind_18 : decode cX9_isBlind 18 = .ok (.iconst 1, 1) := by decide +kernel
theorem dX9_isBlind_19 : decode cX9_isBlind 19 = .ok (.goto 4, 3) := by decide +kernel
theorem dX9_isBlind_22 : decode cX9_isBlind 22 = .ok (.iconst 0, 1) := by decide +kernel
theorem dX9_isBlind_23 : decode cX9_isBlind 23 = .ok (.ireturn, 1) := by decide +kernel
theorem dX10_init_0 : decode cX10_init 0 = .ok (.aload_n 0, 1) := by decide +kernel
theorem dX10_init_1 : decode cX10_init 1 = .ok (.invokespecial 3, 3) := by decide +kernel
theorem dX10_init_4 : decode cX10_init 4 = .ok (.aload_n 0, 1) := by decide +kernel
theorem dX10_init_5 : decode cX10_init 5 = .ok (.iconst (-1), 1) := by decide +kernel
theorem dX10_init_6 : decode cX10_init 6 = .ok (.putfield 9, 3) := by decide +kernel
theorem dX10_init_9 : decode cX10_init 9 = .ok (.aload_n 0, 1) := by decide +kernel
theorem dX10_init_10 : decode cX10_init 10 = .ok (.iload_n 1, 1) := by decide +kernel
theorem dX10_init_11 : decode cX10_init 11 = .ok (.putfield 15, 3) := by decide +kernel
theorem dX10_init_14 : decode cX10_init 14 = .ok (.aload_n 0, 1) := by decide +kernel
theorem dX10_init_15 : decode cX10_init 15 = .ok (.iload_n 2, 1) := by decide +kernel
theorem dX10_init_16 : decode cX10_init 16 = .ok (.putfield 19, 3) := by decide +kernel
theorem dX10_init_19 : decode cX10_init 19 = .ok (.return_, 1) := by decide +kernel
theorem dX11_init_0 : decode cX11_init 0 = .ok (.aload_n 0, 1) := by decide +kernel
theorem dX11_init_1 : decode cX11_init 1 = .ok (.invokespecial 3, 3) := by decide +kernel
theorem dX11_init_4 : decode cX11_init 4 = .ok (.aload_n 0, 1) := by decide +kernel
theorem dX11_init_5 : decode cX11_init 5 = .ok (.iconst 4, 1) := by decide +kernel
theorem dX11_init_6 : decode cX11_init 6 = .ok (.newarray .int, 2) := by decide +kernel
theorem dX11_init_8 : decode cX11_init 8 = .ok (.dup, 1) := by decide +kernel
theorem dX11_init_9 : decode cX11_init 9 = .ok (.iconst 0, 1) := by decide +kernel
theorem dX11_init_10 : decode cX11_init 10 = .ok (.iconst (-1), 1) := by decide +kernel
theorem dX11_init_11 : decode cX11_init 11 = .ok (.iastore, 1) := by decide +kernel
theorem dX11_init_12 : decode cX11_init 12 = .ok (.dup, 1) := by decide +kernel
theorem dX11_init_13 : decode cX11_init 13 = .ok (.iconst 1, 1) := by decide +kernel
theorem dX11_init_14 : decode cX11_init 14 = .ok (.iconst (-1), 1) := by decide +kernel
theorem dX11_init_15 : decode cX11_init 15 = .ok (.iastore, 1) := by decide +kernel
theorem dX11_init_16 : decode cX11_init 16 = .ok (.dup, 1) := by decide +kernel
theorem dX11_init_17 : decode cX11_init 17 = .ok (.iconst 2, 1) := by decide +kernel
theorem dX11_init_18 : decode cX11_init 18 = .ok (.iconst (-1), 1) := by decide +kernel
theorem dX11_init_19 : decode cX11_init 19 = .ok (.iastore, 1) := by decide +kernel
theorem dX11_init_20 : decode cX11_init 20 = .ok (.dup, 1) := by decide +kernel
theorem dX11_init_21 : decode cX11_init 21 = .ok (.iconst 3, 1) := by decide +kernel
theorem dX11_init_22 : decode cX11_init 22 = .ok (.iconst (-1), 1) := by decide +kernel
theorem dX11_init_23 : decode cX11_init 23 = .ok (.iastore, 1) := by decide +kernel
theorem dX11_init_24 : decode cX11_init 24 = .ok (.putfield 9, 3) := by decide +kernel
theorem dX11_init_27 : decode cX11_init 27 = .ok (.return_, 1) := by decide +kernel
theorem dX12_init_0 : decode cX12_init 0 = .ok (.aload_n 0, 1) := by decide +kernel
theorem dX12_init_1 : decode cX12_init 1 = .ok (.invokespecial 1, 3) := by decide +kernel
theorem dX12_init_4 : decode cX12_init 4 = .ok (.aload_n 0, 1) := by decide +kernel
theorem dX12_init_5 : decode cX12_init 5 = .ok (.new 7, 3) := by decide +kernel
theorem dX12_init_8 : decode cX12_init 8 = .ok (.dup, 1) := by decide +kernel
theorem dX12_init_9 : decode cX12_init 9 = .ok (.invokespecial 9, 3) := by decide +kernel
theorem dX12_init_12 : decode cX12_init 12 = .ok (.putfield 10, 3) := by decide +kernel
theorem dX12_init_15 : decode cX12_init 15 = .ok (.aload_n 0, 1) := by decide +kernel
theorem dX12_init_16 : decode cX12_init 16 = .ok (.new 7, 3) := by decide +kernel
theorem dX12_init_19 : decode cX12_init 19 = .ok (.dup, 1) := by decide +kernel
theorem dX12_init_20 : decode cX12_init 20 = .ok (.invokespecial 9, 3) := by decide +kernel
theorem dX12_init_23 : decode cX12_init 23 = .ok (.putfield 16, 3) := by decide +kernel
theorem dX12_init_26 : decode cX12_init 26 = .ok (.aload_n 0, 1) := by decide +kernel
theorem dX12_init_27 : decode cX12_init 27 = .ok (.new 7, 3) := by decide +kernel
theorem dX12_init_30 : decode cX12_init 30 = .ok (.dup, 1) := by decide +kernel
theorem dX12_init_31 : decode cX12_init 31 = .ok (.invokespecial 9, 3) := by decide +kernel
theorem dX12_init_34 : decode cX12_init 34 = .ok (.putfield 19, 3) := by decide +kernel
theorem dX12_init_37 : decode cX12_init 37 = .ok (.aload_n 0, 1) := by decide +kernel
theorem dX12_init_38 : decode cX12_init 38 = .ok (.new 7, 3) := by decide +kernel
theorem dX12_init_41 : decode cX12_init 41 = .ok (.dup, 1) := by decide +kernel
theorem dX12_init_42 : decode cX12_init 42 = .ok (.invokespecial 9, 3) := by decide +kernel
theorem dX12_init_45 : decode cX12_init 45 = .ok (.putfield 22, 3) := by decide +kernel
theorem dX12_init_48 : decode cX12_init 48 = .ok (.return_, 1) := by decide +kernel
theorem dX12_thrown_0 : decode cX12_thrown 0 = .ok (.aload_n 0, 1) := by decide +kernel
theorem dX12_thrown_1 : decode cX12_thrown 1 = .ok (.getfield 25, 3) := by decide +kernel
theorem dX12_thrown_4 : decode cX12_thrown 4 = .ok (.ireturn, 1) := by decide +kernel
theorem dX12_fails_0 : decode cX12_fails 0 = .ok (.aload_n 0, 1) := by decide +kernel
theorem dX12_fails_1 : decode cX12_fails 1 = .ok (.iload_n 1, 1) := by decide +kernel
theorem dX12_fails_2 : decode cX12_fails 2 = .ok (.putfield 25, 3) := by decide +kernel
theorem dX12_fails_5 : decode cX12_fails 5 = .ok (.iload_n 1, 1) := by decide +kernel
theorem dX12_fails_6 : decode cX12_fails 6 = .ok (.ifCond .le 7, 3) := by decide +kernel
theorem dX12_fails_9 : decode cX12_fails 9 = .ok (.iconst 1, 1) := by decide +kernel
theorem dX12_fails_10 : decode cX12_fails 10 = .ok (.goto 4, 3) := by decide +kernel
theorem dX12_fails_13 : decode cX12_fails 13 = .ok (.iconst 0, 1) := by decide +kernel
theorem dX12_fails_14 : decode cX12_fails 14 = .ok (.ireturn, 1) := by decide +kernel
theorem dX12_in_0 : decode cX12_in 0 = .ok (.iload_n 0, 1) := by decide +kernel
theorem dX12_in_1 : decode cX12_in 1 = .ok (.iload_n 1, 1) := by decide +kernel
theorem dX12_in_2 : decode cX12_in 2 = .ok (.if_icmp .lt 12, 3) := by decide +kernel
theorem dX12_in_5 : decode cX12_in 5 = .ok (.iload_n 0, 1) := by decide +kernel
theorem dX12_in_6 : decode cX12_in 6 = .ok (.iload_n 2, 1) := by decide +kernel
theorem dX12_in_7 : decode cX12_in 7 = .ok (.if_icmp .gt 7, 3) := by decide +kernel
theorem dX12_in_10 : decode cX12_in 10 = .ok (.iconst 1, 1) := by decide +kernel
theorem dX12_in_11 : decode cX12_in 11 = .ok (.goto 4, 3) := by decide +kernel
theorem dX12_in_14 : decode cX12_in 14 = .ok (.iconst 0, 1) := by decide +kernel
theorem dX12_in_15 : decode cX12_in 15 = .ok (.ireturn, 1) := by decide +kernel
theorem dX12_isLine_0 : decode cX12_isLine 0 = .ok (.iload_n 1, 1) := by decide +kernel
theorem dX12_isLine_1 : decode cX12_isLine 1 = .ok (.iconst 0, 1) := by decide +kernel
theorem dX12_isLine_2 : decode cX12_isLine 2 = .ok (.aload_n 0, 1) := by decide +kernel
theorem dX12_isLine_3 : decode cX12_isLine 3 = .ok (.getfield 10, 3) := by decide +kernel
theorem dX12_isLine_6 : decode cX12_isLine 6 = .ok (.invokeinterface 29 1, 5) := by decide +kernel
theorem dX12_isLine_11 : decode cX12_isLine 11 = .ok (.iconst 1, 1) := by decide +kernel
theorem dX12_isLine_12 : decode cX12_isLine 12 = .ok (.isub, 1) := by decide +kernel
theorem dX12_isLine_13 : decode cX12_isLine 13 = .ok (.invokestatic 35, 3) := by decide +kernel
theorem dX12_isLine_16 : decode cX12_isLine 16 = .ok (.ireturn, 1) := by decide +kernel
theorem dX12_isPart_0 : decode cX12_isPart 0 = .ok (.aload_n 0, 1) := by decide +kernel
theorem dX12_isPart_1 : decode cX12_isPart 1 = .ok (.iload_n 1, 1) := by decide +kernel
theorem dX12_isPart_2 : decode cX12_isPart 2 = .ok (.invokevirtual 39, 3) := by decide +kernel
theorem dX12_isPart_5 : decode cX12_isPart 5 = .ok (.ifCond .eq 38, 3) := by decide +kernel
theorem dX12_isPart_8 : decode cX12_isPart 8 = .ok (.iload_n 2, 1) := by decide +kernel
theorem dX12_isPart_9 : decode cX12_isPart 9 = .ok (.iconst 0, 1) := by decide +kernel
theorem dX12_isPart_10 : decode cX12_isPart 10 = .ok (.aload_n 0, 1) := by decide +kernel
theorem dX12_isPart_11 : decode cX12_isPart 11 = .ok (.getfield 10, 3) := by decide +kernel
theorem dX12_isPart_14 : decode cX12_isPart 14 = .ok (.iload_n 1, 1) := by decide +kernel
theorem dX12_isPart_15 : decode cX12_isPart 15 = .ok (.invokeinterface 43 2, 5) := by decide +kernel
theorem dX12_isPart_20 : decode cX12_isPart 20 = .ok (.checkcast 47, 3) := by decide +kernel
theorem dX12_isPart_23 : decode cX12_isPart 23 = .ok (.getfield 49, 3) := by decide +kernel
theorem dX12_isPart_26 : decode cX12_isPart 26 = .ok (.invokeinterface 29 1, 5) := by decide +kernel
theorem dX12_isPart_31 : decode cX12_isPart 31 = .ok (.iconst 1, 1) := by decide +kernel
theorem dX12_isPart_32 : decode cX12_isPart 32 = .ok (.isub, 1) := by decide +kernel
theorem dX12_isPart_33 : decode cX12_isPart 33 = .ok (.invokestatic 35, 3) := by decide +kernel
theorem dX12_isPart_36 : decode cX12_isPart 36 = .ok (.ifCond .eq 7, 3) := by decide +kernel
theorem dX12_isPart_39 : decode cX12_isPart 39 = .ok (.iconst 1, 1) := by decide +kernel
theorem dX12_isPart_40 : decode cX12_isPart 40 = .ok (.goto 4, 3) := by decide +kernel
theorem dX12_isPart_43 : decode cX12_isPart 43 = .ok (.iconst 0, 1) := by decide +kernel
theorem dX12_isPart_44 : decode cX12_isPart 44 = .ok (.ireturn, 1) := by decide +kernel
theorem dX12_isJoint_0 : decode cX12_isJoint 0 = .ok (.aload_n 0, 1) := by decide +kernel
theorem dX12_isJoint_1 : decode cX12_isJoint 1 = .ok (.iload_n 1, 1) := by decide +kernel
theorem dX12_isJoint_2 : decode cX12_isJoint 2 = .ok (.invokevirtual 39, 3) := by decide +kernel
theorem dX12_isJoint_5 : decode cX12_isJoint 5 = .ok (.ifCond .eq 38, 3) := by decide +kernel
theorem dX12_isJoint_8 : decode cX12_isJoint 8 = .ok (.iload_n 2, 1) := by decide +kernel
theorem dX12_isJoint_9 : decode cX12_isJoint 9 = .ok (.iconst 0, 1) := by decide +kernel
theorem dX12_isJoint_10 : decode cX12_isJoint 10 = .ok (.aload_n 0, 1) := by decide +kernel
theorem dX12_isJoint_11 : decode cX12_isJoint 11 = .ok (.getfield 10, 3) := by decide +kernel
theorem dX12_isJoint_14 : decode cX12_isJoint 14 = .ok (.iload_n 1, 1) := by decide +kernel
theorem dX12_isJoint_15 : decode cX12_isJoint 15 = .ok (.invokeinterface 43 2, 5) := by decide +kernel
theorem dX12_isJoint_20 : decode cX12_isJoint 20 = .ok (.checkcast 47, 3) := by decide +kernel
theorem dX12_isJoint_23 : decode cX12_isJoint 23 = .ok (.getfield 52, 3) := by decide +kernel
theorem dX12_isJoint_26 : decode cX12_isJoint 26 = .ok (.invokeinterface 29 1, 5) := by decide +kernel
theorem dX12_isJoint_31 : decode cX12_isJoint 31 = .ok (.iconst 1, 1) := by decide +kernel
theorem dX12_isJoint_32 : decode cX12_isJoint 32 = .ok (.isub, 1) := by decide +kernel
theorem dX12_isJoint_33 : decode cX12_isJoint 33 = .ok (.invokestatic 35, 3) := by decide +kernel
theorem dX12_isJoint_36 : decode cX12_isJoint 36 = .ok (.ifCond .eq 7, 3) := by decide +kernel
theorem dX12_isJoint_39 : decode cX12_isJoint 39 = .ok (.iconst 1, 1) := by decide +kernel
theorem dX12_isJoint_40 : decode cX12_isJoint 40 = .ok (.goto 4, 3) := by decide +kernel
theorem dX12_isJoint_43 : decode cX12_isJoint 43 = .ok (.iconst 0, 1) := by decide +kernel
theorem dX12_isJoint_44 : decode cX12_isJoint 44 = .ok (.ireturn, 1) := by decide +kernel
theorem dX12_isHeat_0 : decode cX12_isHeat 0 = .ok (.iload_n 1, 1) := by decide +kernel
theorem dX12_isHeat_1 : decode cX12_isHeat 1 = .ok (.iconst 0, 1) := by decide +kernel
theorem dX12_isHeat_2 : decode cX12_isHeat 2 = .ok (.aload_n 0, 1) := by decide +kernel
theorem dX12_isHeat_3 : decode cX12_isHeat 3 = .ok (.getfield 16, 3) := by decide +kernel
theorem dX12_isHeat_6 : decode cX12_isHeat 6 = .ok (.invokeinterface 29 1, 5) := by decide +kernel
theorem dX12_isHeat_11 : decode cX12_isHeat 11 = .ok (.iconst 1, 1) := by decide +kernel
theorem dX12_isHeat_12 : decode cX12_isHeat 12 = .ok (.isub, 1) := by decide +kernel
theorem dX12_isHeat_13 : decode cX12_isHeat 13 = .ok (.invokestatic 35, 3) := by decide +kernel
theorem dX12_isHeat_16 : decode cX12_isHeat 16 = .ok (.ireturn, 1) := by decide +kernel
theorem dX12_isWelder_0 : decode cX12_isWelder 0 = .ok (.iload_n 1, 1) := by decide +kernel
theorem dX12_isWelder_1 : decode cX12_isWelder 1 = .ok (.iconst 0, 1) := by decide +kernel
theorem dX12_isWelder_2 : decode cX12_isWelder 2 = .ok (.aload_n 0, 1) := by decide +kernel
theorem dX12_isWelder_3 : decode cX12_isWelder 3 = .ok (.getfield 19, 3) := by decide +kernel
theorem dX12_isWelder_6 : decode cX12_isWelder 6 = .ok (.invokeinterface 29 1, 5) := by decide +kernel
theorem dX12_isWelder_11 : decode cX12_isWelder 11 = .ok (.iconst 1, 1) := by decide +kernel
theorem dX12_isWelder_12 : decode cX12_isWelder 12 = .ok (.isub, 1) := by decide +kernel
theorem dX12_isWelder_13 : decode cX12_isWelder 13 = .ok (.invokestatic 35, 3) := by decide +kernel
theorem dX12_isWelder_16 : decode cX12_isWelder 16 = .ok (.ireturn, 1) := by decide +kernel
theorem dX12_isCircuit_0 : decode cX12_isCircuit 0 = .ok (.iload_n 1, 1) := by decide +kernel
theorem dX12_isCircuit_1 : decode cX12_isCircuit 1 = .ok (.iconst 0, 1) := by decide +kernel
theorem dX12_isCircuit_2 : decode cX12_isCircuit 2 = .ok (.aload_n 0, 1) := by decide +kernel
theorem dX12_isCircuit_3 : decode cX12_isCircuit 3 = .ok (.getfield 22, 3) := by decide +kernel
theorem dX12_isCircuit_6 : decode cX12_isCircuit 6 = .ok (.invokeinterface 29 1, 5) := by decide +kernel
theorem dX12_isCircuit_11 : decode cX12_isCircuit 11 = .ok (.iconst 1, 1) := by decide +kernel
theorem dX12_isCircuit_12 : decode cX12_isCircuit 12 = .ok (.isub, 1) := by decide +kernel
theorem dX12_isCircuit_13 : decode cX12_isCircuit 13 = .ok (.invokestatic 35, 3) := by decide +kernel
theorem dX12_isCircuit_16 : decode cX12_isCircuit 16 = .ok (.ireturn, 1) := by decide +kernel
theorem dX12_part_0 : decode cX12_part 0 = .ok (.aload_n 0, 1) := by decide +kernel
theorem dX12_part_1 : decode cX12_part 1 = .ok (.getfield 10, 3) := by decide +kernel
theorem dX12_part_4 : decode cX12_part 4 = .ok (.iload_n 1, 1) := by decide +kernel
theorem dX12_part_5 : decode cX12_part 5 = .ok (.invokeinterface 43 2, 5) := by decide +kernel
theorem dX12_part_10 : decode cX12_part 10 = .ok (.checkcast 47, 3) := by decide +kernel
theorem dX12_part_13 : decode cX12_part 13 = .ok (.getfield 49, 3) := by decide +kernel
theorem dX12_part_16 : decode cX12_part 16 = .ok (.iload_n 2, 1) := by decide +kernel
theorem dX12_part_17 : decode cX12_part 17 = .ok (.invokeinterface 43 2, 5) := by decide +kernel
theorem dX12_part_22 : decode cX12_part 22 = .ok (.checkcast 55, 3) := by decide +kernel
theorem dX12_part_25 : decode cX12_part 25 = .ok (.areturn, 1) := by decide +kernel
theorem dX12_at_0 : decode cX12_at 0 = .ok (.aload_n 0, 1) := by decide +kernel
theorem dX12_at_1 : decode cX12_at 1 = .ok (.getfield 10, 3) := by decide +kernel
theorem dX12_at_4 : decode cX12_at 4 = .ok (.iload_n 1, 1) := by decide +kernel
theorem dX12_at_5 : decode cX12_at 5 = .ok (.invokeinterface 43 2, 5) := by decide +kernel
theorem dX12_at_10 : decode cX12_at 10 = .ok (.checkcast 47, 3) := by decide +kernel
theorem dX12_at_13 : decode cX12_at 13 = .ok (.getfield 52, 3) := by decide +kernel
theorem dX12_at_16 : decode cX12_at 16 = .ok (.iload_n 2, 1) := by decide +kernel
theorem dX12_at_17 : decode cX12_at 17 = .ok (.invokeinterface 43 2, 5) := by decide +kernel
theorem dX12_at_22 : decode cX12_at 22 = .ok (.checkcast 57, 3) := by decide +kernel
theorem dX12_at_25 : decode cX12_at 25 = .ok (.areturn, 1) := by decide +kernel
theorem dX12_addLine_0 : decode cX12_addLine 0 = .ok (.aload_n 0, 1) := by decide +kernel
theorem dX12_addLine_1 : decode cX12_addLine 1 = .ok (.iload_n 1, 1) := by decide +kernel
theorem dX12_addLine_2 : decode cX12_addLine 2 = .ok (.iconst 1, 1) := by decide +kernel
theorem dX12_addLine_3 : decode cX12_addLine 3 = .ok (.iconst 3, 1) := by decide +kernel
theorem dX12_addLine_4 : decode cX12_addLine 4 = .ok (.invokestatic 35, 3) := by decide +kernel
theorem dX12_addLine_7 : decode cX12_addLine 7 = .ok (.ifCond .ne 7, 3) := by decide +kernel
theorem dX12_addLine_10 : decode cX12_addLine 10 = .ok (.iconst 1, 1) := by decide +kernel
theorem dX12_addLine_11 : decode cX12_addLine 11 = .ok (.goto 21, 3) := by decide +kernel
theorem dX12_addLine_14 : decode cX12_addLine 14 = .ok (.aload_n 0, 1) := by decide +kernel
theorem dX12_addLine_15 : decode cX12_addLine 15 = .ok (.getfield 10, 3) := by decide +kernel
theorem dX12_addLine_18 : decode cX12_addLine 18 = .ok (.invokeinterface 29 1, 5) := by decide +kernel
theorem dX12_addLine_23 : decode cX12_addLine 23 = .ok (.iconst 4, 1) := by decide +kernel
theorem dX12_addLine_24 : decode cX12_addLine 24 = .ok (.if_icmp .ne 7, 3) := by decide +kernel
theorem dX12_addLine_27 : decode cX12_addLine 27 = .ok (.iconst 2, 1) := by decide +kernel
theorem dX12_addLine_28 : decode cX12_addLine 28 = .ok (.goto 4, 3) := by decide +kernel
theorem dX12_addLine_31 : decode cX12_addLine 31 = .ok (.iconst 0, 1) := by decide +kernel
theorem dX12_addLine_32 : decode cX12_addLine 32 = .ok (.invokevirtual 59, 3) := by decide +kernel
theorem dX12_addLine_35 : decode cX12_addLine 35 = .ok (.ifCond .eq 5, 3) := by decide +kernel
theorem dX12_addLine_38 : decode cX12_addLine 38 = .ok (.iconst 0, 1) := by decide +kernel
theorem dX12_addLine_39 : decode cX12_addLine 39 = .ok (.ireturn, 1) := by decide +kernel
theorem dX12_addLine_40 : decode cX12_addLine 40 = .ok (.aload_n 0, 1) := by decide +kernel
theorem dX12_addLine_41 : decode cX12_addLine 41 = .ok (.getfield 10, 3) := by decide +kernel
theorem dX12_addLine_44 : decode cX12_addLine 44 = .ok (.new 47, 3) := by decide +kernel
theorem dX12_addLine_47 : decode cX12_addLine 47 = .ok (.dup, 1) := by decide +kernel
theorem dX12_addLine_48 : decode cX12_addLine 48 = .ok (.iload_n 1, 1) := by decide +kernel
theorem dX12_addLine_49 : decode cX12_addLine 49 = .ok (.invokespecial 62, 3) := by decide +kernel
theorem dX12_addLine_52 : decode cX12_addLine 52 = .ok (.invokeinterface 65 2, 5) := by decide +kernel
theorem dX12_addLine_57 : decode cX12_addLine 57 = .ok (.pop, 1) := by decide +kernel
theorem dX12_addLine_58 : decode cX12_addLine 58 = .ok (.aload_n 0, 1) := by decide +kernel
theorem dX12_addLine_59 : decode cX12_addLine 59 = .ok (.getfield 10, 3) := by decide +kernel
theorem dX12_addLine_62 : decode cX12_addLine 62 = .ok (.invokeinterface 29 1, 5) := by decide +kernel
theorem dX12_addLine_67 : decode cX12_addLine 67 = .ok (.iconst 1, 1) := by decide +kernel
theorem dX12_addLine_68 : decode cX12_addLine 68 = .ok (.isub, 1) := by decide +kernel
theorem dX12_addLine_69 : decode cX12_addLine 69 = .ok (.ireturn, 1) := by decide +kernel
theorem dX12_addPart_0 : decode cX12_addPart 0 = .ok (.iload_n 2, 1) := by decide +kernel
theorem dX12_addPart_1 : decode cX12_addPart 1 = .ok (.bipush 115, 2) := by decide +kernel
theorem dX12_addPart_3 : decode cX12_addPart 3 = .ok (.if_icmp .ne 15, 3) := by decide +kernel
theorem dX12_addPart_6 : decode cX12_addPart 6 = .ok (.iload_n 3, 1) := by decide +kernel
theorem dX12_addPart_7 : decode cX12_addPart 7 = .ok (.bipush 100, 2) := by decide +kernel
theorem dX12_addPart_9 : decode cX12_addPart 9 = .ok (.sipush 6000, 3) := by decide +kernel
theorem dX12_addPart_12 : decode cX12_addPart 12 = .ok (.invokestatic 35, 3) := by decide +kernel
theorem dX12_addPart_15 : decode cX12_addPart 15 = .ok (.goto 20, 3) := by decide +kernel
theorem dX12_addPart_18 : decode cX12_addPart 18 = .ok (.iload_n 2, 1) := by decide +kernel
theorem dX12_addPart_19 : decode cX12_addPart 19 = .ok (.bipush 101, 2) := by decide +kernel
theorem dX12_addPart_21 : decode cX12_addPart 21 = .ok (.if_icmp .eq 9, 3) := by decide +kernel
theorem dX12_addPart_24 : decode cX12_addPart 24 = .ok (.iload_n 2, 1) := by decide +kernel
theorem dX12_addPart_25 : decode cX12_addPart 25 = .ok (.bipush 118, 2) := by decide +kernel
theorem dX12_addPart_27 : decode cX12_addPart 27 = .ok (.if_icmp .ne 7, 3) := by decide +kernel
theorem dX12_addPart_30 : decode cX12_addPart 30 = .ok (.iconst 1, 1) := by decide +kernel
theorem dX12_addPart_31 : decode cX12_addPart 31 = .ok (.goto 4, 3) := by decide +kernel
theorem dX12_addPart_34 : decode cX12_addPart 34 = .ok (.iconst 0, 1) := by decide +kernel
theorem dX12_addPart_35 : decode cX12_addPart 35 = .ok (.istore 4, 2) := by decide +kernel
theorem dX12_addPart_37 : decode cX12_addPart 37 = .ok (.aload_n 0, 1) := by decide +kernel
theorem dX12_addPart_38 : decode cX12_addPart 38 = .ok (.aload_n 0, 1) := by decide +kernel
theorem dX12_addPart_39 : decode cX12_addPart 39 = .ok (.iload_n 1, 1) := by decide +kernel
theorem dX12_addPart_40 : decode cX12_addPart 40 = .ok (.invokevirtual 39, 3) := by decide +kernel
theorem dX12_addPart_43 : decode cX12_addPart 43 = .ok (.ifCond .ne 7, 3) := by decide +kernel
theorem dX12_addPart_46 : decode cX12_addPart 46 = .ok (.iconst 1, 1) := by decide +kernel
theorem dX12_addPart_47 : decode cX12_addPart 47 = .ok (.goto 43, 3) := by decide +kernel
theorem dX12_addPart_50 : decode cX12_addPart 50 = .ok (.iload 4, 2) := by decide +kernel
theorem dX12_addPart_52 : decode cX12_addPart 52 = .ok (.ifCond .ne 7, 3) := by decide +kernel
theorem dX12_addPart_55 : decode cX12_addPart 55 = .ok (.iconst 2, 1) := by decide +kernel
theorem dX12_addPart_56 : decode cX12_addPart 56 = .ok (.goto 34, 3) := by decide +kernel
theorem dX12_addPart_59 : decode cX12_addPart 59 = .ok (.aload_n 0, 1) := by decide +kernel
theorem dX12_addPart_60 : decode cX12_addPart 60 = .ok (.getfield 10, 3) := by decide +kernel
theorem dX12_addPart_63 : decode cX12_addPart 63 = .ok (.iload_n 1, 1) := by decide +kernel
theorem dX12_addPart_64 : decode cX12_addPart 64 = .ok (.invokeinterface 43 2, 5) := by decide +kernel
theorem dX12_addPart_69 : decode cX12_addPart 69 = .ok (.checkcast 47, 3) := by decide +kernel
theorem dX12_addPart_72 : decode cX12_addPart 72 = .ok (.getfield 49, 3) := by decide +kernel
theorem dX12_addPart_75 : decode cX12_addPart 75 = .ok (.invokeinterface 29 1, 5) := by decide +kernel
theorem dX12_addPart_80 : decode cX12_addPart 80 = .ok (.bipush 10, 2) := by decide +kernel
theorem dX12_addPart_82 : decode cX12_addPart 82 = .ok (.if_icmp .ne 7, 3) := by decide +kernel
theorem dX12_addPart_85 : decode cX12_addPart 85 = .ok (.iconst 3, 1) := by decide +kernel
theorem dX12_addPart_86 : decode cX12_addPart 86 = .ok (.goto 4, 3) := by decide +kernel
theorem dX12_addPart_89 : decode cX12_addPart 89 = .ok (.iconst 0, 1) := by decide +kernel
theorem dX12_addPart_90 : decode cX12_addPart 90 = .ok (.invokevirtual 59, 3) := by decide +kernel
theorem dX12_addPart_93 : decode cX12_addPart 93 = .ok (.ifCond .eq 5, 3) := by decide +kernel
theorem dX12_addPart_96 : decode cX12_addPart 96 = .ok (.iconst 0, 1) := by decide +kernel
theorem dX12_addPart_97 : decode cX12_addPart 97 = .ok (.ireturn, 1) := by decide +kernel
theorem dX12_addPart_98 : decode cX12_addPart 98 = .ok (.aload_n 0, 1) := by decide +kernel
theorem dX12_addPart_99 : decode cX12_addPart 99 = .ok (.getfield 10, 3) := by decide +kernel
theorem dX12_addPart_102 : decode cX12_addPart 102 = .ok (.iload_n 1, 1) := by decide +kernel
theorem dX12_addPart_103 : decode cX12_addPart 103 = .ok (.invokeinterface 43 2, 5) := by decide +kernel
theorem dX12_addPart_108 : decode cX12_addPart 108 = .ok (.checkcast 47, 3) := by decide +kernel
theorem dX12_addPart_111 : decode cX12_addPart 111 = .ok (.astore 5, 2) := by decide +kernel
theorem dX12_addPart_113 : decode cX12_addPart 113 = .ok (.aload 5, 2) := by decide +kernel
theorem dX12_addPart_115 : decode cX12_addPart 115 = .ok (.getfield 49, 3) := by decide +kernel
theorem dX12_addPart_118 : decode cX12_addPart 118 = .ok (.new 55, 3) := by decide +kernel
theorem dX12_addPart_121 : decode cX12_addPart 121 = .ok (.dup, 1) := by decide +kernel
theorem dX12_addPart_122 : decode cX12_addPart 122 = .ok (.iload_n 2, 1) := by decide +kernel
theorem dX12_addPart_123 : decode cX12_addPart 123 = .ok (.iload_n 2, 1) := by decide +kernel
theorem dX12_addPart_124 : decode cX12_addPart 124 = .ok (.bipush 115, 2) := by decide +kernel
theorem dX12_addPart_126 : decode cX12_addPart 126 = .ok (.if_icmp .ne 7, 3) := by decide +kernel
theorem dX12_addPart_129 : decode cX12_addPart 129 = .ok (.iload_n 3, 1) := by decide +kernel
theorem dX12_addPart_130 : decode cX12_addPart 130 = .ok (.goto 6, 3) := by decide +kernel
theorem dX12_addPart_133 : decode cX12_addPart 133 = .ok (.sipush 300, 3) := by decide +kernel
theorem dX12_addPart_136 : decode cX12_addPart 136 = .ok (.invokespecial 69, 3) := by decide +kernel
theorem dX12_addPart_139 : decode cX12_addPart 139 = .ok (.invokeinterface 65 2, 5) := by decide +kernel
theorem dX12_addPart_144 : decode cX12_addPart 144 = .ok (.pop, 1) := by decide +kernel
theorem dX12_addPart_145 : decode cX12_addPart 145 = .ok (.aload 5, 2) := by decide +kernel
theorem dX12_addPart_147 : decode cX12_addPart 147 = .ok (.getfield 49, 3) := by decide +kernel
theorem dX12_addPart_150 : decode cX12_addPart 150 = .ok (.invokeinterface 29 1, 5) := by decide +kernel
theorem dX12_addPart_155 : decode cX12_addPart 155 = .ok (.iconst 1, 1) := by decide +kernel
theorem dX12_addPart_156 : decode cX12_addPart 156 = .ok (.if_icmp .le 21, 3) := by decide +kernel
theorem dX12_addPart_159 : decode cX12_addPart 159 = .ok (.aload 5, 2) := by decide +kernel
theorem dX12_addPart_161 : decode cX12_addPart 161 = .ok (.getfield 52, 3) := by decide +kernel
theorem dX12_addPart_164 : decode cX12_addPart 164 = .ok (.new 57, 3) := by decide +kernel
theorem dX12_addPart_167 : decode cX12_addPart 167 = .ok (.dup, 1) := by decide +kernel
theorem dX12_addPart_168 : decode cX12_addPart 168 = .ok (.invokespecial 72, 3) := by decide +kernel
theorem dX12_addPart_171 : decode cX12_addPart 171 = .ok (.invokeinterface 65 2, 5) := by decide +kernel
theorem dX12_addPart_176 : decode cX12_addPart 176 = .ok (.pop, 1) := by decide +kernel
theorem dX12_addPart_177 : decode cX12_addPart 177 = .ok (.aload 5, 2) := by decide +kernel
theorem dX12_addPart_179 : decode cX12_addPart 179 = .ok (.iconst 0, 1) := by decide +kernel
theorem dX12_addPart_180 : decode cX12_addPart 180 = .ok (.putfield 73, 3) := by decide +kernel
theorem dX12_addPart_183 : decode cX12_addPart 183 = .ok (.aload 5, 2) := by decide +kernel
theorem dX12_addPart_185 : decode cX12_addPart 185 = .ok (.getfield 49, 3) := by decide +kernel
theorem dX12_addPart_188 : decode cX12_addPart 188 = .ok (.invokeinterface 29 1, 5) := by decide +kernel
theorem dX12_addPart_193 : decode cX12_addPart 193 = .ok (.iconst 1, 1) := by decide +kernel
theorem dX12_addPart_194 : decode cX12_addPart 194 = .ok (.isub, 1) := by decide +kernel
theorem dX12_addPart_195 : decode cX12_addPart 195 = .ok (.ireturn, 1) := by decide +kernel
theorem dX12_undoes_0 : decode cX12_undoes 0 = .ok (.iload_n 2, 1) := by decide +kernel
theorem dX12_undoes_1 : decode cX12_undoes 1 = .ok (.iconst 1, 1) := by decide +kernel
theorem dX12_undoes_2 : decode cX12_undoes 2 = .ok (.isub, 1) := by decide +kernel
theorem dX12_undoes_3 : decode cX12_undoes 3 = .ok (.istore_n 3, 1) := by decide +kernel
theorem dX12_undoes_4 : decode cX12_undoes 4 = .ok (.iload_n 3, 1) := by decide +kernel
theorem dX12_undoes_5 : decode cX12_undoes 5 = .ok (.iload_n 2, 1) := by decide +kernel
theorem dX12_undoes_6 : decode cX12_undoes 6 = .ok (.if_icmp .gt 75, 3) := by decide +kernel
theorem dX12_undoes_9 : decode cX12_undoes 9 = .ok (.aload_n 0, 1) := by decide +kernel
theorem dX12_undoes_10 : decode cX12_undoes 10 = .ok (.iload_n 1, 1) := by decide +kernel
theorem dX12_undoes_11 : decode cX12_undoes 11 = .ok (.iload_n 3, 1) := by decide +kernel
theorem dX12_undoes_12 : decode cX12_undoes 12 = .ok (.invokevirtual 77, 3) := by decide +kernel
theorem dX12_undoes_15 : decode cX12_undoes 15 = .ok (.ifCond .eq 60, 3) := by decide +kernel
theorem dX12_undoes_18 : decode cX12_undoes 18 = .ok (.aload_n 0, 1) := by decide +kernel
theorem dX12_undoes_19 : decode cX12_undoes 19 = .ok (.iload_n 1, 1) := by decide +kernel
theorem dX12_undoes_20 : decode cX12_undoes 20 = .ok (.iload_n 3, 1) := by decide +kernel
theorem dX12_undoes_21 : decode cX12_undoes 21 = .ok (.invokevirtual 81, 3) := by decide +kernel
theorem dX12_undoes_24 : decode cX12_undoes 24 = .ok (.getfield 85, 3) := by decide +kernel
theorem dX12_undoes_27 : decode cX12_undoes 27 = .ok (.bipush 110, 2) := by decide +kernel
theorem dX12_undoes_29 : decode cX12_undoes 29 = .ok (.if_icmp .ne 6, 3) := by decide +kernel
theorem dX12_undoes_32 : decode cX12_undoes 32 = .ok (.goto 43, 3) := by decide +kernel
theorem dX12_undoes_35 : decode cX12_undoes 35 = .ok (.aload_n 0, 1) := by decide +kernel
theorem dX12_undoes_36 : decode cX12_undoes 36 = .ok (.getfield 10, 3) := by decide +kernel
theorem dX12_undoes_39 : decode cX12_undoes 39 = .ok (.iload_n 1, 1) := by decide +kernel
theorem dX12_undoes_40 : decode cX12_undoes 40 = .ok (.invokeinterface 43 2, 5) := by decide +kernel
theorem dX12_undoes_45 : decode cX12_undoes 45 = .ok (.checkcast 47, 3) := by decide +kernel
theorem dX12_undoes_48 : decode cX12_undoes 48 = .ok (.getfield 52, 3) := by decide +kernel
theorem dX12_undoes_51 : decode cX12_undoes 51 = .ok (.iload_n 3, 1) := by decide +kernel
theorem dX12_undoes_52 : decode cX12_undoes 52 = .ok (.new 57, 3) := by decide +kernel
theorem dX12_undoes_55 : decode cX12_undoes 55 = .ok (.dup, 1) := by decide +kernel
theorem dX12_undoes_56 : decode cX12_undoes 56 = .ok (.invokespecial 72, 3) := by decide +kernel
theorem dX12_undoes_59 : decode cX12_undoes 59 = .ok (.invokeinterface 89 3, 5) := by decide +kernel
theorem dX12_undoes_64 : decode cX12_undoes 64 = .ok (.pop, 1) := by decide +kernel
theorem dX12_undoes_65 : decode cX12_undoes 65 = .ok (.aload_n 0, 1) := by decide +kernel
theorem dX12_undoes_66 : decode cX12_undoes 66 = .ok (.dup, 1) := by decide +kernel
theorem dX12_undoes_67 : decode cX12_undoes 67 = .ok (.getfield 93, 3) := by decide +kernel
theorem dX12_undoes_70 : decode cX12_undoes 70 = .ok (.iconst 1, 1) := by decide +kernel
theorem dX12_undoes_71 : decode cX12_undoes 71 = .ok (.iadd, 1) := by decide +kernel
theorem dX12_undoes_72 : decode cX12_undoes 72 = .ok (.putfield 93, 3) := by decide +kernel
theorem dX12_undoes_75 : decode cX12_undoes 75 = .ok (.iinc 3 1, 3) := by decide +kernel
theorem dX12_undoes_78 : decode cX12_undoes 78 = .ok (.goto (-74), 3) := by decide +kernel
theorem dX12_undoes_81 : decode cX12_undoes 81 = .ok (.aload_n 0, 1) := by decide +kernel
theorem dX12_undoes_82 : decode cX12_undoes 82 = .ok (.getfield 10, 3) := by decide +kernel
theorem dX12_undoes_85 : decode cX12_undoes 85 = .ok (.iload_n 1, 1) := by decide +kernel
theorem dX12_undoes_86 : decode cX12_undoes 86 = .ok (.invokeinterface 43 2, 5) := by decide +kernel
theorem dX12_undoes_91 : decode cX12_undoes 91 = .ok (.checkcast 47, 3) := by decide +kernel
theorem dX12_undoes_94 : decode cX12_undoes 94 = .ok (.iconst 0, 1) := by decide +kernel
theorem dX12_undoes_95 : decode cX12_undoes 95 = .ok (.putfield 73, 3) := by decide +kernel
theorem dX12_undoes_98 : decode cX12_undoes 98 = .ok (.return_, 1) := by decide +kernel
theorem dX12_givesBack_0 : decode cX12_givesBack 0 = .ok (.aload_n 1, 1) := by decide +kernel
theorem dX12_givesBack_1 : decode cX12_givesBack 1 = .ok (.getfield 96, 3) := by decide +kernel
theorem dX12_givesBack_4 : decode cX12_givesBack 4 = .ok (.iconst (-1), 1) := by decide +kernel
theorem dX12_givesBack_5 : decode cX12_givesBack 5 = .ok (.if_icmp .eq 31, 3) := by decide +kernel
theorem dX12_givesBack_8 : decode cX12_givesBack 8 = .ok (.aload_n 0, 1) := by decide +kernel
theorem dX12_givesBack_9 : decode cX12_givesBack 9 = .ok (.getfield 16, 3) := by decide +kernel
theorem dX12_givesBack_12 : decode cX12_givesBack 12 = .ok (.aload_n 1, 1) := by decide +kernel
theorem dX12_givesBack_13 : decode cX12_givesBack 13 = .ok (.getfield 96, 3) := by decide +kernel
theorem dX12_givesBack_16 : decode cX12_givesBack 16 = .ok (.invokeinterface 43 2, 5) := by decide +kernel
theorem dX12_givesBack_21 : decode cX12_givesBack 21 = .ok (.checkcast 99, 3) := by decide +kernel
theorem dX12_givesBack_24 : decode cX12_givesBack 24 = .ok (.dup, 1) := by decide +kernel
theorem dX12_givesBack_25 : decode cX12_givesBack 25 = .ok (.getfield 101, 3) := by decide +kernel
theorem dX12_givesBack_28 : decode cX12_givesBack 28 = .ok (.aload_n 1, 1) := by decide +kernel
theorem dX12_givesBack_29 : decode cX12_givesBack 29 = .ok (.getfield 104, 3) := by decide +kernel
theorem dX12_givesBack_32 : decode cX12_givesBack 32 = .ok (.iadd, 1) := by decide +kernel
theorem dX12_givesBack_33 : decode cX12_givesBack 33 = .ok (.putfield 101, 3) := by decide +kernel
theorem dX12_givesBack_36 : decode cX12_givesBack 36 = .ok (.aload_n 1, 1) := by decide +kernel
theorem dX12_givesBack_37 : decode cX12_givesBack 37 = .ok (.iconst (-1), 1) := by decide +kernel
theorem dX12_givesBack_38 : decode cX12_givesBack 38 = .ok (.putfield 96, 3) := by decide +kernel
theorem dX12_givesBack_41 : decode cX12_givesBack 41 = .ok (.return_, 1) := by decide +kernel
theorem dX12_setLength_0 : decode cX12_setLength 0 = .ok (.aload_n 0, 1) := by decide +kernel
theorem dX12_setLength_1 : decode cX12_setLength 1 = .ok (.aload_n 0, 1) := by decide +kernel
theorem dX12_setLength_2 : decode cX12_setLength 2 = .ok (.iload_n 1, 1) := by decide +kernel
theorem dX12_setLength_3 : decode cX12_setLength 3 = .ok (.iload_n 2, 1) := by decide +kernel
theorem dX12_setLength_4 : decode cX12_setLength 4 = .ok (.invokevirtual 107, 3) := by decide +kernel
theorem dX12_setLength_7 : decode cX12_setLength 7 = .ok (.ifCond .ne 7, 3) := by decide +kernel
theorem dX12_setLength_10 : decode cX12_setLength 10 = .ok (.iconst 1, 1) := by decide +kernel
theorem dX12_setLength_11 : decode cX12_setLength 11 = .ok (.goto 51, 3) := by decide +kernel
theorem dX12_setLength_14 : decode cX12_setLength 14 = .ok (.iload_n 3, 1) := by decide +kernel
theorem dX12_setLength_15 : decode cX12_setLength 15 = .ok (.bipush 100, 2) := by decide +kernel
theorem dX12_setLength_17 : decode cX12_setLength 17 = .ok (.sipush 6000, 3) := by decide +kernel
theorem dX12_setLength_20 : decode cX12_setLength 20 = .ok (.invokestatic 35, 3) := by decide +kernel
theorem dX12_setLength_23 : decode cX12_setLength 23 = .ok (.ifCond .ne 7, 3) := by decide +kernel
theorem dX12_setLength_26 : decode cX12_setLength 26 = .ok (.iconst 2, 1) := by decide +kernel
theorem dX12_setLength_27 : decode cX12_setLength 27 = .ok (.goto 35, 3) := by decide +kernel
theorem dX12_setLength_30 : decode cX12_setLength 30 = .ok (.aload_n 0, 1) := by decide +kernel
theorem dX12_setLength_31 : decode cX12_setLength 31 = .ok (.iload_n 1, 1) := by decide +kernel
theorem dX12_setLength_32 : decode cX12_setLength 32 = .ok (.iload_n 2, 1) := by decide +kernel
theorem dX12_setLength_33 : decode cX12_setLength 33 = .ok (.invokevirtual 110, 3) := by decide +kernel
theorem dX12_setLength_36 : decode cX12_setLength 36 = .ok (.getfield 114, 3) := by decide +kernel
theorem dX12_setLength_39 : decode cX12_setLength 39 = .ok (.bipush 115, 2) := by decide +kernel
theorem dX12_setLength_41 : decode cX12_setLength 41 = .ok (.if_icmp .ne 16, 3) := by decide +kernel
theorem dX12_setLength_44 : decode cX12_setLength 44 = .ok (.aload_n 0, 1) := by decide +kernel
theorem dX12_setLength_45 : decode cX12_setLength 45 = .ok (.iload_n 1, 1) := by decide +kernel
theorem dX12_setLength_46 : decode cX12_setLength 46 = .ok (.iload_n 2, 1) := by decide +kernel
theorem dX12_setLength_47 : decode cX12_setLength 47 = .ok (.invokevirtual 110, 3) := by decide +kernel
theorem dX12_setLength_50 : decode cX12_setLength 50 = .ok (.getfield 104, 3) := by decide +kernel
theorem dX12_setLength_53 : decode cX12_setLength 53 = .ok (.iload_n 3, 1) := by decide +kernel
theorem dX12_setLength_54 : decode cX12_setLength 54 = .ok (.if_icmp .ne 7, 3) := by decide +kernel
theorem dX12_setLength_57 : decode cX12_setLength 57 = .ok (.iconst 3, 1) := by decide +kernel
theorem dX12_setLength_58 : decode cX12_setLength 58 = .ok (.goto 4, 3) := by decide +kernel
theorem dX12_setLength_61 : decode cX12_setLength 61 = .ok (.iconst 0, 1) := by decide +kernel
theorem dX12_setLength_62 : decode cX12_setLength 62 = .ok (.invokevirtual 59, 3) := by decide +kernel
theorem dX12_setLength_65 : decode cX12_setLength 65 = .ok (.ifCond .eq 5, 3) := by decide +kernel
theorem dX12_setLength_68 : decode cX12_setLength 68 = .ok (.iconst 0, 1) := by decide +kernel
theorem dX12_setLength_69 : decode cX12_setLength 69 = .ok (.ireturn, 1) := by decide +kernel
theorem dX12_setLength_70 : decode cX12_setLength 70 = .ok (.aload_n 0, 1) := by decide +kernel
theorem dX12_setLength_71 : decode cX12_setLength 71 = .ok (.iload_n 1, 1) := by decide +kernel
theorem dX12_setLength_72 : decode cX12_setLength 72 = .ok (.iload_n 2, 1) := by decide +kernel
theorem dX12_setLength_73 : decode cX12_setLength 73 = .ok (.invokevirtual 110, 3) := by decide +kernel
theorem dX12_setLength_76 : decode cX12_setLength 76 = .ok (.astore 4, 2) := by decide +kernel
theorem dX12_setLength_78 : decode cX12_setLength 78 = .ok (.aload 4, 2) := by decide +kernel
theorem dX12_setLength_80 : decode cX12_setLength 80 = .ok (.getfield 104, 3) := by decide +kernel
theorem dX12_setLength_83 : decode cX12_setLength 83 = .ok (.istore 5, 2) := by decide +kernel
theorem dX12_setLength_85 : decode cX12_setLength 85 = .ok (.aload_n 0, 1) := by decide +kernel
theorem dX12_setLength_86 : decode cX12_setLength 86 = .ok (.aload 4, 2) := by decide +kernel
theorem dX12_setLength_88 : decode cX12_setLength 88 = .ok (.invokevirtual 117, 3) := by decide +kernel
theorem dX12_setLength_91 : decode cX12_setLength 91 = .ok (.aload 4, 2) := by decide +kernel
theorem dX12_setLength_93 : decode cX12_setLength 93 = .ok (.iload_n 3, 1) := by decide +kernel
theorem dX12_setLength_94 : decode cX12_setLength 94 = .ok (.putfield 104, 3) := by decide +kernel
theorem dX12_setLength_97 : decode cX12_setLength 97 = .ok (.aload_n 0, 1) := by decide +kernel
theorem dX12_setLength_98 : decode cX12_setLength 98 = .ok (.iload_n 1, 1) := by decide +kernel
theorem dX12_setLength_99 : decode cX12_setLength 99 = .ok (.iload_n 2, 1) := by decide +kernel
theorem dX12_setLength_100 : decode cX12_setLength 100 = .ok (.invokevirtual 121, 3) := by decide +kernel
theorem dX12_setLength_103 : decode cX12_setLength 103 = .ok (.iload 5, 2) := by decide +kernel
theorem dX12_setLength_105 : decode cX12_setLength 105 = .ok (.ireturn, 1) := by decide +kernel
theorem dX12_length_0 : decode cX12_length 0 = .ok (.aload_n 0, 1) := by decide +kernel
theorem dX12_length_1 : decode cX12_length 1 = .ok (.aload_n 0, 1) := by decide +kernel
theorem dX12_length_2 : decode cX12_length 2 = .ok (.iload_n 1, 1) := by decide +kernel
theorem dX12_length_3 : decode cX12_length 3 = .ok (.invokevirtual 39, 3) := by decide +kernel
theorem dX12_length_6 : decode cX12_length 6 = .ok (.ifCond .eq 7, 3) := by decide +kernel
theorem dX12_length_9 : decode cX12_length 9 = .ok (.iconst 0, 1) := by decide +kernel
theorem dX12_length_10 : decode cX12_length 10 = .ok (.goto 4, 3) := by decide +kernel
theorem dX12_length_13 : decode cX12_length 13 = .ok (.iconst 1, 1) := by decide +kernel
theorem dX12_length_14 : decode cX12_length 14 = .ok (.invokevirtual 59, 3) := by decide +kernel
theorem dX12_length_17 : decode cX12_length 17 = .ok (.ifCond .eq 7, 3) := by decide +kernel
theorem dX12_length_20 : decode cX12_length 20 = .ok (.iconst 0, 1) := by decide +kernel
theorem dX12_length_21 : decode cX12_length 21 = .ok (.goto 19, 3) := by decide +kernel
theorem dX12_length_24 : decode cX12_length 24 = .ok (.aload_n 0, 1) := by decide +kernel
theorem dX12_length_25 : decode cX12_length 25 = .ok (.getfield 10, 3) := by decide +kernel
theorem dX12_length_28 : decode cX12_length 28 = .ok (.iload_n 1, 1) := by decide +kernel
theorem dX12_length_29 : decode cX12_length 29 = .ok (.invokeinterface 43 2, 5) := by decide +kernel
theorem dX12_length_34 : decode cX12_length 34 = .ok (.checkcast 47, 3) := by decide +kernel
theorem dX12_length_37 : decode cX12_length 37 = .ok (.invokevirtual 125, 3) := by decide +kernel
theorem dX12_length_40 : decode cX12_length 40 = .ok (.ireturn, 1) := by decide +kernel
theorem dX12_spools_0 : decode cX12_spools 0 = .ok (.aload_n 0, 1) := by decide +kernel
theorem dX12_spools_1 : decode cX12_spools 1 = .ok (.aload_n 0, 1) := by decide +kernel
theorem dX12_spools_2 : decode cX12_spools 2 = .ok (.iload_n 1, 1) := by decide +kernel
theorem dX12_spools_3 : decode cX12_spools 3 = .ok (.invokevirtual 39, 3) := by decide +kernel
theorem dX12_spools_6 : decode cX12_spools 6 = .ok (.ifCond .eq 7, 3) := by decide +kernel
theorem dX12_spools_9 : decode cX12_spools 9 = .ok (.iconst 0, 1) := by decide +kernel
theorem dX12_spools_10 : decode cX12_spools 10 = .ok (.goto 4, 3) := by decide +kernel
theorem dX12_spools_13 : decode cX12_spools 13 = .ok (.iconst 1, 1) := by decide +kernel
theorem dX12_spools_14 : decode cX12_spools 14 = .ok (.invokevirtual 59, 3) := by decide +kernel
theorem dX12_spools_17 : decode cX12_spools 17 = .ok (.ifCond .eq 7, 3) := by decide +kernel
theorem dX12_spools_20 : decode cX12_spools 20 = .ok (.iconst 0, 1) := by decide +kernel
theorem dX12_spools_21 : decode cX12_spools 21 = .ok (.goto 19, 3) := by decide +kernel
theorem dX12_spools_24 : decode cX12_spools 24 = .ok (.aload_n 0, 1) := by decide +kernel
theorem dX12_spools_25 : decode cX12_spools 25 = .ok (.getfield 10, 3) := by decide +kernel
theorem dX12_spools_28 : decode cX12_spools 28 = .ok (.iload_n 1, 1) := by decide +kernel
theorem dX12_spools_29 : decode cX12_spools 29 = .ok (.invokeinterface 43 2, 5) := by decide +kernel
theorem dX12_spools_34 : decode cX12_spools 34 = .ok (.checkcast 47, 3) := by decide +kernel
theorem dX12_spools_37 : decode cX12_spools 37 = .ok (.invokevirtual 127, 3) := by decide +kernel
theorem dX12_spools_40 : decode cX12_spools 40 = .ok (.ireturn, 1) := by decide +kernel
theorem dX12_spoolOf_0 : decode cX12_spoolOf 0 = .ok (.aload_n 0, 1) := by decide +kernel
theorem dX12_spoolOf_1 : decode cX12_spoolOf 1 = .ok (.aload_n 0, 1) := by decide +kernel
theorem dX12_spoolOf_2 : decode cX12_spoolOf 2 = .ok (.iload_n 1, 1) := by decide +kernel
theorem dX12_spoolOf_3 : decode cX12_spoolOf 3 = .ok (.iload_n 2, 1) := by decide +kernel
theorem dX12_spoolOf_4 : decode cX12_spoolOf 4 = .ok (.invokevirtual 107, 3) := by decide +kernel
theorem dX12_spoolOf_7 : decode cX12_spoolOf 7 = .ok (.ifCond .eq 7, 3) := by decide +kernel
theorem dX12_spoolOf_10 : decode cX12_spoolOf 10 = .ok (.iconst 0, 1) := by decide +kernel
theorem dX12_spoolOf_11 : decode cX12_spoolOf 11 = .ok (.goto 4, 3) := by decide +kernel
theorem dX12_spoolOf_14 : decode cX12_spoolOf 14 = .ok (.iconst 1, 1) := by decide +kernel
theorem dX12_spoolOf_15 : decode cX12_spoolOf 15 = .ok (.invokevirtual 59, 3) := by decide +kernel
theorem dX12_spoolOf_18 : decode cX12_spoolOf 18 = .ok (.ifCond .eq 7, 3) := by decide +kernel
theorem dX12_spoolOf_21 : decode cX12_spoolOf 21 = .ok (.iconst 0, 1) := by decide +kernel
theorem dX12_spoolOf_22 : decode cX12_spoolOf 22 = .ok (.goto 20, 3) := by decide +kernel
theorem dX12_spoolOf_25 : decode cX12_spoolOf 25 = .ok (.aload_n 0, 1) := by decide +kernel
theorem dX12_spoolOf_26 : decode cX12_spoolOf 26 = .ok (.getfield 10, 3) := by decide +kernel
theorem dX12_spoolOf_29 : decode cX12_spoolOf 29 = .ok (.iload_n 1, 1) := by decide +kernel
theorem dX12_spoolOf_30 : decode cX12_spoolOf 30 = .ok (.invokeinterface 43 2, 5) := by decide +kernel
theorem dX12_spoolOf_35 : decode cX12_spoolOf 35 = .ok (.checkcast 47, 3) := by decide +kernel
theorem dX12_spoolOf_38 : decode cX12_spoolOf 38 = .ok (.iload_n 2, 1) := by decide +kernel
theorem dX12_spoolOf_39 : decode cX12_spoolOf 39 = .ok (.invokevirtual 130, 3) := by decide +kernel
theorem dX12_spoolOf_42 : decode cX12_spoolOf 42 = .ok (.ireturn, 1) := by decide +kernel
theorem dX12_isField_0 : decode cX12_isField 0 = .ok (.aload_n 0, 1) := by decide +kernel
theorem dX12_isField_1 : decode cX12_isField 1 = .ok (.aload_n 0, 1) := by decide +kernel
theorem dX12_isField_2 : decode cX12_isField 2 = .ok (.iload_n 1, 1) := by decide +kernel
theorem dX12_isField_3 : decode cX12_isField 3 = .ok (.iload_n 2, 1) := by decide +kernel
theorem dX12_isField_4 : decode cX12_isField 4 = .ok (.invokevirtual 77, 3) := by decide +kernel
theorem dX12_isField_7 : decode cX12_isField 7 = .ok (.ifCond .eq 7, 3) := by decide +kernel
theorem dX12_isField_10 : decode cX12_isField 10 = .ok (.iconst 0, 1) := by decide +kernel
theorem dX12_isField_11 : decode cX12_isField 11 = .ok (.goto 4, 3) := by decide +kernel
theorem dX12_isField_14 : decode cX12_isField 14 = .ok (.iconst 1, 1) := by decide +kernel
theorem dX12_isField_15 : decode cX12_isField 15 = .ok (.invokevirtual 59, 3) := by decide +kernel
theorem dX12_isField_18 : decode cX12_isField 18 = .ok (.ifCond .ne 46, 3) := by decide +kernel
theorem dX12_isField_21 : decode cX12_isField 21 = .ok (.aload_n 0, 1) := by decide +kernel
theorem dX12_isField_22 : decode cX12_isField 22 = .ok (.getfield 10, 3) := by decide +kernel
theorem dX12_isField_25 : decode cX12_isField 25 = .ok (.iload_n 1, 1) := by decide +kernel
theorem dX12_isField_26 : decode cX12_isField 26 = .ok (.invokeinterface 43 2, 5) := by decide +kernel
theorem dX12_isField_31 : decode cX12_isField 31 = .ok (.checkcast 47, 3) := by decide +kernel
theorem dX12_isField_34 : decode cX12_isField 34 = .ok (.iload_n 2, 1) := by decide +kernel
theorem dX12_isField_35 : decode cX12_isField 35 = .ok (.invokevirtual 130, 3) := by decide +kernel
theorem dX12_isField_38 : decode cX12_isField 38 = .ok (.aload_n 0, 1) := by decide +kernel
theorem dX12_isField_39 : decode cX12_isField 39 = .ok (.getfield 10, 3) := by decide +kernel
theorem dX12_isField_42 : decode cX12_isField 42 = .ok (.iload_n 1, 1) := by decide +kernel
theorem dX12_isField_43 : decode cX12_isField 43 = .ok (.invokeinterface 43 2, 5) := by decide +kernel
theorem dX12_isField_48 : decode cX12_isField 48 = .ok (.checkcast 47, 3) := by decide +kernel
theorem dX12_isField_51 : decode cX12_isField 51 = .ok (.iload_n 2, 1) := by decide +kernel
theorem dX12_isField_52 : decode cX12_isField 52 = .ok (.iconst 1, 1) := by decide +kernel
theorem dX12_isField_53 : decode cX12_isField 53 = .ok (.iadd, 1) := by decide +kernel
theorem dX12_isField_54 : decode cX12_isField 54 = .ok (.invokevirtual 130, 3) := by decide +kernel
theorem dX12_isField_57 : decode cX12_isField 57 = .ok (.if_icmp .eq 7, 3) := by decide +kernel
theorem dX12_isField_60 : decode cX12_isField 60 = .ok (.iconst 1, 1) := by decide +kernel
theorem dX12_isField_61 : decode cX12_isField 61 = .ok (.goto 4, 3) := by decide +kernel
theorem dX12_isField_64 : decode cX12_isField 64 = .ok (.iconst 0, 1) := by decide +kernel
theorem dX12_isField_65 : decode cX12_isField 65 = .ok (.ireturn, 1) := by decide +kernel
theorem dX12_addHeat_0 : decode cX12_addHeat 0 = .ok (.aload_n 0, 1) := by decide +kernel
theorem dX12_addHeat_1 : decode cX12_addHeat 1 = .ok (.iload_n 1, 1) := by decide +kernel
theorem dX12_addHeat_2 : decode cX12_addHeat 2 = .ok (.iconst 0, 1) := by decide +kernel
theorem dX12_addHeat_3 : decode cX12_addHeat 3 = .ok (.iconst 3, 1) := by decide +kernel
theorem dX12_addHeat_4 : decode cX12_addHeat 4 = .ok (.invokestatic 35, 3) := by decide +kernel
theorem dX12_addHeat_7 : decode cX12_addHeat 7 = .ok (.ifCond .eq 15, 3) := by decide +kernel
theorem dX12_addHeat_10 : decode cX12_addHeat 10 = .ok (.iload_n 2, 1) := by decide +kernel
theorem dX12_addHeat_11 : decode cX12_addHeat 11 = .ok (.bipush 100, 2) := by decide +kernel
theorem dX12_addHeat_13 : decode cX12_addHeat 13 = .ok (.sipush 20000, 3) := by decide +kernel
theorem dX12_addHeat_16 : decode cX12_addHeat 16 = .ok (.invokestatic 35, 3) := by decide +kernel
theorem dX12_addHeat_19 : decode cX12_addHeat 19 = .ok (.ifCond .ne 7, 3) := by decide +kernel
theorem dX12_addHeat_22 : decode cX12_addHeat 22 = .ok (.iconst 1, 1) := by decide +kernel
theorem dX12_addHeat_23 : decode cX12_addHeat 23 = .ok (.goto 22, 3) := by decide +kernel
theorem dX12_addHeat_26 : decode cX12_addHeat 26 = .ok (.aload_n 0, 1) := by decide +kernel
theorem dX12_addHeat_27 : decode cX12_addHeat 27 = .ok (.getfield 16, 3) := by decide +kernel
theorem dX12_addHeat_30 : decode cX12_addHeat 30 = .ok (.invokeinterface 29 1, 5) := by decide +kernel
theorem dX12_addHeat_35 : decode cX12_addHeat 35 = .ok (.bipush 8, 2) := by decide +kernel
theorem dX12_addHeat_37 : decode cX12_addHeat 37 = .ok (.if_icmp .ne 7, 3) := by decide +kernel
theorem dX12_addHeat_40 : decode cX12_addHeat 40 = .ok (.iconst 2, 1) := by decide +kernel
theorem dX12_addHeat_41 : decode cX12_addHeat 41 = .ok (.goto 4, 3) := by decide +kernel
theorem dX12_addHeat_44 : decode cX12_addHeat 44 = .ok (.iconst 0, 1) := by decide +kernel
theorem dX12_addHeat_45 : decode cX12_addHeat 45 = .ok (.invokevirtual 59, 3) := by decide +kernel
theorem dX12_addHeat_48 : decode cX12_addHeat 48 = .ok (.ifCond .eq 5, 3) := by decide +kernel
theorem dX12_addHeat_51 : decode cX12_addHeat 51 = .ok (.iconst 0, 1) := by decide +kernel
theorem dX12_addHeat_52 : decode cX12_addHeat 52 = .ok (.ireturn, 1) := by decide +kernel
theorem dX12_addHeat_53 : decode cX12_addHeat 53 = .ok (.aload_n 0, 1) := by decide +kernel
theorem dX12_addHeat_54 : decode cX12_addHeat 54 = .ok (.getfield 16, 3) := by decide +kernel
theorem dX12_addHeat_57 : decode cX12_addHeat 57 = .ok (.new 99, 3) := by decide +kernel
theorem dX12_addHeat_60 : decode cX12_addHeat 60 = .ok (.dup, 1) := by decide +kernel
theorem dX12_addHeat_61 : decode cX12_addHeat 61 = .ok (.iload_n 1, 1) := by decide +kernel
theorem dX12_addHeat_62 : decode cX12_addHeat 62 = .ok (.iload_n 2, 1) := by decide +kernel
theorem dX12_addHeat_63 : decode cX12_addHeat 63 = .ok (.iload_n 3, 1) := by decide +kernel
theorem dX12_addHeat_64 : decode cX12_addHeat 64 = .ok (.invokespecial 134, 3) := by decide +kernel
theorem dX12_addHeat_67 : decode cX12_addHeat 67 = .ok (.invokeinterface 65 2, 5) := by decide +kernel
theorem dX12_addHeat_72 : decode cX12_addHeat 72 = .ok (.pop, 1) := by decide +kernel
theorem dX12_addHeat_73 : decode cX12_addHeat 73 = .ok (.aload_n 0, 1) := by decide +kernel
theorem dX12_addHeat_74 : decode cX12_addHeat 74 = .ok (.getfield 16, 3) := by decide +kernel
theorem dX12_addHeat_77 : decode cX12_addHeat 77 = .ok (.invokeinterface 29 1, 5) := by decide +kernel
theorem dX12_addHeat_82 : decode cX12_addHeat 82 = .ok (.iconst 1, 1) := by decide +kernel
theorem dX12_addHeat_83 : decode cX12_addHeat 83 = .ok (.isub, 1) := by decide +kernel
theorem dX12_addHeat_84 : decode cX12_addHeat 84 = .ok (.ireturn, 1) := by decide +kernel
theorem dX12_left_0 : decode cX12_left 0 = .ok (.aload_n 0, 1) := by decide +kernel
theorem dX12_left_1 : decode cX12_left 1 = .ok (.aload_n 0, 1) := by decide +kernel
theorem dX12_left_2 : decode cX12_left 2 = .ok (.iload_n 1, 1) := by decide +kernel
theorem dX12_left_3 : decode cX12_left 3 = .ok (.invokevirtual 137, 3) := by decide +kernel
theorem dX12_left_6 : decode cX12_left 6 = .ok (.ifCond .eq 7, 3) := by decide +kernel
theorem dX12_left_9 : decode cX12_left 9 = .ok (.iconst 0, 1) := by decide +kernel
theorem dX12_left_10 : decode cX12_left 10 = .ok (.goto 4, 3) := by decide +kernel
theorem dX12_left_13 : decode cX12_left 13 = .ok (.iconst 1, 1) := by decide +kernel
theorem dX12_left_14 : decode cX12_left 14 = .ok (.invokevirtual 59, 3) := by decide +kernel
theorem dX12_left_17 : decode cX12_left 17 = .ok (.ifCond .eq 7, 3) := by decide +kernel
theorem dX12_left_20 : decode cX12_left 20 = .ok (.iconst 0, 1) := by decide +kernel
theorem dX12_left_21 : decode cX12_left 21 = .ok (.goto 19, 3) := by decide +kernel
theorem dX12_left_24 : decode cX12_left 24 = .ok (.aload_n 0, 1) := by decide +kernel
theorem dX12_left_25 : decode cX12_left 25 = .ok (.getfield 16, 3) := by decide +kernel
theorem dX12_left_28 : decode cX12_left 28 = .ok (.iload_n 1, 1) := by decide +kernel
theorem dX12_left_29 : decode cX12_left 29 = .ok (.invokeinterface 43 2, 5) := by decide +kernel
theorem dX12_left_34 : decode cX12_left 34 = .ok (.checkcast 99, 3) := by decide +kernel
theorem dX12_left_37 : decode cX12_left 37 = .ok (.getfield 101, 3) := by decide +kernel
theorem dX12_left_40 : decode cX12_left 40 = .ok (.ireturn, 1) := by decide +kernel
theorem dX12_papers_0 : decode cX12_papers 0 = .ok (.aload_n 0, 1) := by decide +kernel
theorem dX12_papers_1 : decode cX12_papers 1 = .ok (.aload_n 0, 1) := by decide +kernel
theorem dX12_papers_2 : decode cX12_papers 2 = .ok (.iload_n 1, 1) := by decide +kernel
theorem dX12_papers_3 : decode cX12_papers 3 = .ok (.invokevirtual 137, 3) := by decide +kernel
theorem dX12_papers_6 : decode cX12_papers 6 = .ok (.ifCond .eq 7, 3) := by decide +kernel
theorem dX12_papers_9 : decode cX12_papers 9 = .ok (.iconst 0, 1) := by decide +kernel
theorem dX12_papers_10 : decode cX12_papers 10 = .ok (.goto 4, 3) := by decide +kernel
theorem dX12_papers_13 : decode cX12_papers 13 = .ok (.iconst 1, 1) := by decide +kernel
theorem dX12_papers_14 : decode cX12_papers 14 = .ok (.invokevirtual 59, 3) := by decide +kernel
theorem dX12_papers_17 : decode cX12_papers 17 = .ok (.ifCond .eq 5, 3) := by decide +kernel
theorem dX12_papers_20 : decode cX12_papers 20 = .ok (.iconst 0, 1) := by decide +kernel
theorem dX12_papers_21 : decode cX12_papers 21 = .ok (.ireturn, 1) := by decide +kernel
theorem dX12_papers_22 : decode cX12_papers 22 = .ok (.aload_n 0, 1) := by decide +kernel
theorem dX12_papers_23 : decode cX12_papers 23 = .ok (.getfield 16, 3) := by decide +kernel
theorem dX12_papers_26 : decode cX12_papers 26 = .ok (.iload_n 1, 1) := by decide +kernel
theorem dX12_papers_27 : decode cX12_papers 27 = .ok (.invokeinterface 43 2, 5) := by decide +kernel
theorem dX12_papers_32 : decode cX12_papers 32 = .ok (.checkcast 99, 3) := by decide +kernel
theorem dX12_papers_35 : decode cX12_papers 35 = .ok (.getfield 140, 3) := by decide +kernel
theorem dX12_papers_38 : decode cX12_papers 38 = .ok (.istore_n 3, 1) := by decide +kernel
theorem dX12_papers_39 : decode cX12_papers 39 = .ok (.aload_n 0, 1) := by decide +kernel
theorem dX12_papers_40 : decode cX12_papers 40 = .ok (.getfield 16, 3) := by decide +kernel
theorem dX12_papers_43 : decode cX12_papers 43 = .ok (.iload_n 1, 1) := by decide +kernel
theorem dX12_papers_44 : decode cX12_papers 44 = .ok (.invokeinterface 43 2, 5) := by decide +kernel
theorem dX12_papers_49 : decode cX12_papers 49 = .ok (.checkcast 99, 3) := by decide +kernel
theorem dX12_papers_52 : decode cX12_papers 52 = .ok (.iload_n 2, 1) := by decide +kernel
theorem dX12_papers_53 : decode cX12_papers 53 = .ok (.putfield 140, 3) := by decide +kernel
theorem dX12_papers_56 : decode cX12_papers 56 = .ok (.iload_n 3, 1) := by decide +kernel
theorem dX12_papers_57 : decode cX12_papers 57 = .ok (.ireturn, 1) := by decide +kernel
theorem dX12_losePaper_0 : decode cX12_losePaper 0 = .ok (.aload_n 0, 1) := by decide +kernel
theorem dX12_losePaper_1 : decode cX12_losePaper 1 = .ok (.iload_n 1, 1) := by decide +kernel
theorem dX12_losePaper_2 : decode cX12_losePaper 2 = .ok (.iconst 0, 1) := by decide +kernel
theorem dX12_losePaper_3 : decode cX12_losePaper 3 = .ok (.invokevirtual 143, 3) := by decide +kernel
theorem dX12_losePaper_6 : decode cX12_losePaper 6 = .ok (.ireturn, 1) := by decide +kernel
theorem dX12_test_0 : decode cX12_test 0 = .ok (.aload_n 0, 1) := by decide +kernel
theorem dX12_test_1 : decode cX12_test 1 = .ok (.iload_n 1, 1) := by decide +kernel
theorem dX12_test_2 : decode cX12_test 2 = .ok (.iconst 1, 1) := by decide +kernel
theorem dX12_test_3 : decode cX12_test 3 = .ok (.invokevirtual 143, 3) := by decide +kernel
theorem dX12_test_6 : decode cX12_test 6 = .ok (.ireturn, 1) := by decide +kernel
theorem dX12_give_0 : decode cX12_give 0 = .ok (.aload_n 0, 1) := by decide +kernel
theorem dX12_give_1 : decode cX12_give 1 = .ok (.aload_n 0, 1) := by decide +kernel
theorem dX12_give_2 : decode cX12_give 2 = .ok (.iload_n 1, 1) := by decide +kernel
theorem dX12_give_3 : decode cX12_give 3 = .ok (.iload_n 2, 1) := by decide +kernel
theorem dX12_give_4 : decode cX12_give 4 = .ok (.invokevirtual 107, 3) := by decide +kernel
theorem dX12_give_7 : decode cX12_give 7 = .ok (.ifCond .eq 11, 3) := by decide +kernel
theorem dX12_give_10 : decode cX12_give 10 = .ok (.aload_n 0, 1) := by decide +kernel
theorem dX12_give_11 : decode cX12_give 11 = .ok (.iload_n 3, 1) := by decide +kernel
theorem dX12_give_12 : decode cX12_give 12 = .ok (.invokevirtual 137, 3) := by decide +kernel
theorem dX12_give_15 : decode cX12_give 15 = .ok (.ifCond .ne 7, 3) := by decide +kernel
theorem dX12_give_18 : decode cX12_give 18 = .ok (.iconst 1, 1) := by decide +kernel
theorem dX12_give_19 : decode cX12_give 19 = .ok (.goto 49, 3) := by decide +kernel
theorem dX12_give_22 : decode cX12_give 22 = .ok (.aload_n 0, 1) := by decide +kernel
theorem dX12_give_23 : decode cX12_give 23 = .ok (.iload_n 1, 1) := by decide +kernel
theorem dX12_give_24 : decode cX12_give 24 = .ok (.iload_n 2, 1) := by decide +kernel
theorem dX12_give_25 : decode cX12_give 25 = .ok (.invokevirtual 110, 3) := by decide +kernel
theorem dX12_give_28 : decode cX12_give 28 = .ok (.getfield 96, 3) := by decide +kernel
theorem dX12_give_31 : decode cX12_give 31 = .ok (.iload_n 3, 1) := by decide +kernel
theorem dX12_give_32 : decode cX12_give 32 = .ok (.if_icmp .eq 31, 3) := by decide +kernel
theorem dX12_give_35 : decode cX12_give 35 = .ok (.aload_n 0, 1) := by decide +kernel
theorem dX12_give_36 : decode cX12_give 36 = .ok (.getfield 16, 3) := by decide +kernel
theorem dX12_give_39 : decode cX12_give 39 = .ok (.iload_n 3, 1) := by decide +kernel
theorem dX12_give_40 : decode cX12_give 40 = .ok (.invokeinterface 43 2, 5) := by decide +kernel
theorem dX12_give_45 : decode cX12_give 45 = .ok (.checkcast 99, 3) := by decide +kernel
theorem dX12_give_48 : decode cX12_give 48 = .ok (.getfield 101, 3) := by decide +kernel
theorem dX12_give_51 : decode cX12_give 51 = .ok (.aload_n 0, 1) := by decide +kernel
theorem dX12_give_52 : decode cX12_give 52 = .ok (.iload_n 1, 1) := by decide +kernel
theorem dX12_give_53 : decode cX12_give 53 = .ok (.iload_n 2, 1) := by decide +kernel
theorem dX12_give_54 : decode cX12_give 54 = .ok (.invokevirtual 110, 3) := by decide +kernel
theorem dX12_give_57 : decode cX12_give 57 = .ok (.getfield 104, 3) := by decide +kernel
theorem dX12_give_60 : decode cX12_give 60 = .ok (.if_icmp .ge 7, 3) := by decide +kernel
theorem dX12_give_63 : decode cX12_give 63 = .ok (.iconst 2, 1) := by decide +kernel
theorem dX12_give_64 : decode cX12_give 64 = .ok (.goto 4, 3) := by decide +kernel
theorem dX12_give_67 : decode cX12_give 67 = .ok (.iconst 0, 1) := by decide +kernel
theorem dX12_give_68 : decode cX12_give 68 = .ok (.invokevirtual 59, 3) := by decide +kernel
theorem dX12_give_71 : decode cX12_give 71 = .ok (.ifCond .eq 5, 3) := by decide +kernel
theorem dX12_give_74 : decode cX12_give 74 = .ok (.iconst 0, 1) := by decide +kernel
theorem dX12_give_75 : decode cX12_give 75 = .ok (.ireturn, 1) := by decide +kernel
theorem dX12_give_76 : decode cX12_give 76 = .ok (.aload_n 0, 1) := by decide +kernel
theorem dX12_give_77 : decode cX12_give 77 = .ok (.iload_n 1, 1) := by decide +kernel
theorem dX12_give_78 : decode cX12_give 78 = .ok (.iload_n 2, 1) := by decide +kernel
theorem dX12_give_79 : decode cX12_give 79 = .ok (.invokevirtual 110, 3) := by decide +kernel
theorem dX12_give_82 : decode cX12_give 82 = .ok (.astore 4, 2) := by decide +kernel
theorem dX12_give_84 : decode cX12_give 84 = .ok (.aload_n 0, 1) := by decide +kernel
theorem dX12_give_85 : decode cX12_give 85 = .ok (.aload 4, 2) := by decide +kernel
theorem dX12_give_87 : decode cX12_give 87 = .ok (.invokevirtual 117, 3) := by decide +kernel
theorem dX12_give_90 : decode cX12_give 90 = .ok (.aload 4, 2) := by decide +kernel
theorem dX12_give_92 : decode cX12_give 92 = .ok (.iload_n 3, 1) := by decide +kernel
theorem dX12_give_93 : decode cX12_give 93 = .ok (.putfield 96, 3) := by decide +kernel
theorem dX12_give_96 : decode cX12_give 96 = .ok (.aload_n 0, 1) := by decide +kernel
theorem dX12_give_97 : decode cX12_give 97 = .ok (.getfield 16, 3) := by decide +kernel
theorem dX12_give_100 : decode cX12_give 100 = .ok (.iload_n 3, 1) := by decide +kernel
theorem dX12_give_101 : decode cX12_give 101 = .ok (.invokeinterface 43 2, 5) := by decide +kernel
theorem dX12_give_106 : decode cX12_give 106 = .ok (.checkcast 99, 3) := by decide +kernel
theorem dX12_give_109 : decode cX12_give 109 = .ok (.dup, 1) := by decide +kernel
theorem dX12_give_110 : decode cX12_give 110 = .ok (.getfield 101, 3) := by decide +kernel
theorem dX12_give_113 : decode cX12_give 113 = .ok (.aload 4, 2) := by decide +kernel
theorem dX12_give_115 : decode cX12_give 115 = .ok (.getfield 104, 3) := by decide +kernel
theorem dX12_give_118 : decode cX12_give 118 = .ok (.isub, 1) := by decide +kernel
theorem dX12_give_119 : decode cX12_give 119 = .ok (.putfield 101, 3) := by decide +kernel
theorem dX12_give_122 : decode cX12_give 122 = .ok (.aload_n 0, 1) := by decide +kernel
theorem dX12_give_123 : decode cX12_give 123 = .ok (.iload_n 1, 1) := by decide +kernel
theorem dX12_give_124 : decode cX12_give 124 = .ok (.iload_n 2, 1) := by decide +kernel
theorem dX12_give_125 : decode cX12_give 125 = .ok (.invokevirtual 121, 3) := by decide +kernel
theorem dX12_give_128 : decode cX12_give 128 = .ok (.aload_n 0, 1) := by decide +kernel
theorem dX12_give_129 : decode cX12_give 129 = .ok (.getfield 16, 3) := by decide +kernel
theorem dX12_give_132 : decode cX12_give 132 = .ok (.iload_n 3, 1) := by decide +kernel
theorem dX12_give_133 : decode cX12_give 133 = .ok (.invokeinterface 43 2, 5) := by decide +kernel
theorem dX12_give_138 : decode cX12_give 138 = .ok (.checkcast 99, 3) := by decide +kernel
theorem dX12_give_141 : decode cX12_give 141 = .ok (.getfield 101, 3) := by decide +kernel
theorem dX12_give_144 : decode cX12_give 144 = .ok (.ireturn, 1) := by decide +kernel
theorem dX12_heatOf_0 : decode cX12_heatOf 0 = .ok (.aload_n 0, 1) := by decide +kernel
theorem dX12_heatOf_1 : decode cX12_heatOf 1 = .ok (.aload_n 0, 1) := by decide +kernel
theorem dX12_heatOf_2 : decode cX12_heatOf 2 = .ok (.iload_n 1, 1) := by decide +kernel
theorem dX12_heatOf_3 : decode cX12_heatOf 3 = .ok (.iload_n 2, 1) := by decide +kernel
theorem dX12_heatOf_4 : decode cX12_heatOf 4 = .ok (.invokevirtual 107, 3) := by decide +kernel
theorem dX12_heatOf_7 : decode cX12_heatOf 7 = .ok (.ifCond .ne 7, 3) := by decide +kernel
theorem dX12_heatOf_10 : decode cX12_heatOf 10 = .ok (.iconst 1, 1) := by decide +kernel
theorem dX12_heatOf_11 : decode cX12_heatOf 11 = .ok (.goto 21, 3) := by decide +kernel
theorem dX12_heatOf_14 : decode cX12_heatOf 14 = .ok (.aload_n 0, 1) := by decide +kernel
theorem dX12_heatOf_15 : decode cX12_heatOf 15 = .ok (.iload_n 1, 1) := by decide +kernel
theorem dX12_heatOf_16 : decode cX12_heatOf 16 = .ok (.iload_n 2, 1) := by decide +kernel
theorem dX12_heatOf_17 : decode cX12_heatOf 17 = .ok (.invokevirtual 110, 3) := by decide +kernel
theorem dX12_heatOf_20 : decode cX12_heatOf 20 = .ok (.getfield 96, 3) := by decide +kernel
theorem dX12_heatOf_23 : decode cX12_heatOf 23 = .ok (.iconst (-1), 1) := by decide +kernel
theorem dX12_heatOf_24 : decode cX12_heatOf 24 = .ok (.if_icmp .ne 7, 3) := by decide +kernel
theorem dX12_heatOf_27 : decode cX12_heatOf 27 = .ok (.iconst 2, 1) := by decide +kernel
theorem dX12_heatOf_28 : decode cX12_heatOf 28 = .ok (.goto 4, 3) := by decide +kernel
theorem dX12_heatOf_31 : decode cX12_heatOf 31 = .ok (.iconst 0, 1) := by decide +kernel
theorem dX12_heatOf_32 : decode cX12_heatOf 32 = .ok (.invokevirtual 59, 3) := by decide +kernel
theorem dX12_heatOf_35 : decode cX12_heatOf 35 = .ok (.ifCond .eq 7, 3) := by decide +kernel
theorem dX12_heatOf_38 : decode cX12_heatOf 38 = .ok (.iconst 0, 1) := by decide +kernel
theorem dX12_heatOf_39 : decode cX12_heatOf 39 = .ok (.goto 12, 3) := by decide +kernel
theorem dX12_heatOf_42 : decode cX12_heatOf 42 = .ok (.aload_n 0, 1) := by decide +kernel
theorem dX12_heatOf_43 : decode cX12_heatOf 43 = .ok (.iload_n 1, 1) := by decide +kernel
theorem dX12_heatOf_44 : decode cX12_heatOf 44 = .ok (.iload_n 2, 1) := by decide +kernel
theorem dX12_heatOf_45 : decode cX12_heatOf 45 = .ok (.invokevirtual 110, 3) := by decide +kernel
theorem dX12_heatOf_48 : decode cX12_heatOf 48 = .ok (.getfield 96, 3) := by decide +kernel
theorem dX12_heatOf_51 : decode cX12_heatOf 51 = .ok (.ireturn, 1) := by decide +kernel
theorem dX12_best_0 : decode cX12_best 0 = .ok (.iconst (-1), 1) := by decide +kernel
theorem dX12_best_1 : decode cX12_best 1 = .ok (.istore_n 3, 1) := by decide +kernel
theorem dX12_best_2 : decode cX12_best 2 = .ok (.iconst 0, 1) := by decide +kernel
theorem dX12_best_3 : decode cX12_best 3 = .ok (.istore 4, 2) := by decide +kernel
theorem dX12_best_5 : decode cX12_best 5 = .ok (.iload 4, 2) := by decide +kernel
theorem dX12_best_7 : decode cX12_best 7 = .ok (.aload_n 0, 1) := by decide +kernel
theorem dX12_best_8 : decode cX12_best 8 = .ok (.getfield 16, 3) := by decide +kernel
theorem dX12_best_11 : decode cX12_best 11 = .ok (.invokeinterface 29 1, 5) := by decide +kernel
theorem dX12_best_16 : decode cX12_best 16 = .ok (.if_icmp .ge 83, 3) := by decide +kernel
theorem dX12_best_19 : decode cX12_best 19 = .ok (.aload_n 0, 1) := by decide +kernel
theorem dX12_best_20 : decode cX12_best 20 = .ok (.getfield 16, 3) := by decide +kernel
theorem dX12_best_23 : decode cX12_best 23 = .ok (.iload 4, 2) := by decide +kernel
theorem dX12_best_25 : decode cX12_best 25 = .ok (.invokeinterface 43 2, 5) := by decide +kernel
theorem dX12_best_30 : decode cX12_best 30 = .ok (.checkcast 99, 3) := by decide +kernel
theorem dX12_best_33 : decode cX12_best 33 = .ok (.astore 5, 2) := by decide +kernel
theorem dX12_best_35 : decode cX12_best 35 = .ok (.aload 5, 2) := by decide +kernel
theorem dX12_best_37 : decode cX12_best 37 = .ok (.getfield 147, 3) := by decide +kernel
theorem dX12_best_40 : decode cX12_best 40 = .ok (.iload_n 2, 1) := by decide +kernel
theorem dX12_best_41 : decode cX12_best 41 = .ok (.if_icmp .ne 52, 3) := by decide +kernel
theorem dX12_best_44 : decode cX12_best 44 = .ok (.aload 5, 2) := by decide +kernel
theorem dX12_best_46 : decode cX12_best 46 = .ok (.getfield 140, 3) := by decide +kernel
theorem dX12_best_49 : decode cX12_best 49 = .ok (.ifCond .eq 44, 3) := by decide +kernel
theorem dX12_best_52 : decode cX12_best 52 = .ok (.aload 5, 2) := by decide +kernel
theorem dX12_best_54 : decode cX12_best 54 = .ok (.getfield 101, 3) := by decide +kernel
theorem dX12_best_57 : decode cX12_best 57 = .ok (.iload_n 1, 1) := by decide +kernel
theorem dX12_best_58 : decode cX12_best 58 = .ok (.if_icmp .lt 35, 3) := by decide +kernel
theorem dX12_best_61 : decode cX12_best 61 = .ok (.iload_n 3, 1) := by decide +kernel
theorem dX12_best_62 : decode cX12_best 62 = .ok (.iconst (-1), 1) := by decide +kernel
theorem dX12_best_63 : decode cX12_best 63 = .ok (.if_icmp .eq 27, 3) := by decide +kernel
theorem dX12_best_66 : decode cX12_best 66 = .ok (.aload 5, 2) := by decide +kernel
theorem dX12_best_68 : decode cX12_best 68 = .ok (.getfield 101, 3) := by decide +kernel
theorem dX12_best_71 : decode cX12_best 71 = .ok (.aload_n 0, 1) := by decide +kernel
theorem dX12_best_72 : decode cX12_best 72 = .ok (.getfield 16, 3) := by decide +kernel
theorem dX12_best_75 : decode cX12_best 75 = .ok (.iload_n 3, 1) := by decide +kernel
theorem dX12_best_76 : decode cX12_best 76 = .ok (.invokeinterface 43 2, 5) := by decide +kernel
theorem dX12_best_81 : decode cX12_best 81 = .ok (.checkcast 99, 3) := by decide +kernel
theorem dX12_best_84 : decode cX12_best 84 = .ok (.getfield 101, 3) := by decide +kernel
theorem dX12_best_87 : decode cX12_best 87 = .ok (.if_icmp .ge 6, 3) := by decide +kernel
theorem dX12_best_90 : decode cX12_best 90 = .ok (.iload 4, 2) := by decide +kernel
theorem dX12_best_92 : decode cX12_best 92 = .ok (.istore_n 3, 1) := by decide +kernel
theorem dX12_best_93 : decode cX12_best 93 = .ok (.iinc 4 1, 3) := by decide +kernel
theorem dX12_best_96 : decode cX12_best 96 = .ok (.goto (-91), 3) := by decide +kernel
theorem dX12_best_99 : decode cX12_best 99 = .ok (.iload_n 3, 1) := by decide +kernel
theorem dX12_best_100 : decode cX12_best 100 = .ok (.ireturn, 1) := by decide +kernel
theorem dX12_bestHeat_0 : decode cX12_bestHeat 0 = .ok (.aload_n 0, 1) := by decide +kernel
theorem dX12_bestHeat_1 : decode cX12_bestHeat 1 = .ok (.aload_n 0, 1) := by decide +kernel
theorem dX12_bestHeat_2 : decode cX12_bestHeat 2 = .ok (.iload_n 1, 1) := by decide +kernel
theorem dX12_bestHeat_3 : decode cX12_bestHeat 3 = .ok (.iload_n 2, 1) := by decide +kernel
theorem dX12_bestHeat_4 : decode cX12_bestHeat 4 = .ok (.invokevirtual 107, 3) := by decide +kernel
theorem dX12_bestHeat_7 : decode cX12_bestHeat 7 = .ok (.ifCond .ne 7, 3) := by decide +kernel
theorem dX12_bestHeat_10 : decode cX12_bestHeat 10 = .ok (.iconst 1, 1) := by decide +kernel
theorem dX12_bestHeat_11 : decode cX12_bestHeat 11 = .ok (.goto 17, 3) := by decide +kernel
theorem dX12_bestHeat_14 : decode cX12_bestHeat 14 = .ok (.iload_n 3, 1) := by decide +kernel
theorem dX12_bestHeat_15 : decode cX12_bestHeat 15 = .ok (.iconst 0, 1) := by decide +kernel
theorem dX12_bestHeat_16 : decode cX12_bestHeat 16 = .ok (.iconst 3, 1) := by decide +kernel
theorem dX12_bestHeat_17 : decode cX12_bestHeat 17 = .ok (.invokestatic 35, 3) := by decide +kernel
theorem dX12_bestHeat_20 : decode cX12_bestHeat 20 = .ok (.ifCond .eq 7, 3) := by decide +kernel
theorem dX12_bestHeat_23 : decode cX12_bestHeat 23 = .ok (.iconst 0, 1) := by decide +kernel
theorem dX12_bestHeat_24 : decode cX12_bestHeat 24 = .ok (.goto 4, 3) := by decide +kernel
theorem dX12_bestHeat_27 : decode cX12_bestHeat 27 = .ok (.iconst 2, 1) := by decide +kernel
theorem dX12_bestHeat_28 : decode cX12_bestHeat 28 = .ok (.invokevirtual 59, 3) := by decide +kernel
theorem dX12_bestHeat_31 : decode cX12_bestHeat 31 = .ok (.ifCond .eq 5, 3) := by decide +kernel
theorem dX12_bestHeat_34 : decode cX12_bestHeat 34 = .ok (.iconst 0, 1) := by decide +kernel
theorem dX12_bestHeat_35 : decode cX12_bestHeat 35 = .ok (.ireturn, 1) := by decide +kernel
theorem dX12_bestHeat_36 : decode cX12_bestHeat 36 = .ok (.aload_n 0, 1) := by decide +kernel
theorem dX12_bestHeat_37 : decode cX12_bestHeat 37 = .ok (.aload_n 0, 1) := by decide +kernel
theorem dX12_bestHeat_38 : decode cX12_bestHeat 38 = .ok (.iload_n 1, 1) := by decide +kernel
theorem dX12_bestHeat_39 : decode cX12_bestHeat 39 = .ok (.iload_n 2, 1) := by decide +kernel
theorem dX12_bestHeat_40 : decode cX12_bestHeat 40 = .ok (.invokevirtual 110, 3) := by decide +kernel
theorem dX12_bestHeat_43 : decode cX12_bestHeat 43 = .ok (.getfield 104, 3) := by decide +kernel
theorem dX12_bestHeat_46 : decode cX12_bestHeat 46 = .ok (.iload_n 3, 1) := by decide +kernel
theorem dX12_bestHeat_47 : decode cX12_bestHeat 47 = .ok (.invokevirtual 150, 3) := by decide +kernel
theorem dX12_bestHeat_50 : decode cX12_bestHeat 50 = .ok (.istore 4, 2) := by decide +kernel
theorem dX12_bestHeat_52 : decode cX12_bestHeat 52 = .ok (.aload_n 0, 1) := by decide +kernel
theorem dX12_bestHeat_53 : decode cX12_bestHeat 53 = .ok (.iload 4, 2) := by decide +kernel
theorem dX12_bestHeat_55 : decode cX12_bestHeat 55 = .ok (.iconst (-1), 1) := by decide +kernel
theorem dX12_bestHeat_56 : decode cX12_bestHeat 56 = .ok (.if_icmp .ne 7, 3) := by decide +kernel
theorem dX12_bestHeat_59 : decode cX12_bestHeat 59 = .ok (.iconst 3, 1) := by decide +kernel
theorem dX12_bestHeat_60 : decode cX12_bestHeat 60 = .ok (.goto 4, 3) := by decide +kernel
theorem dX12_bestHeat_63 : decode cX12_bestHeat 63 = .ok (.iconst 0, 1) := by decide +kernel
theorem dX12_bestHeat_64 : decode cX12_bestHeat 64 = .ok (.invokevirtual 59, 3) := by decide +kernel
theorem dX12_bestHeat_67 : decode cX12_bestHeat 67 = .ok (.ifCond .eq 7, 3) := by decide +kernel
theorem dX12_bestHeat_70 : decode cX12_bestHeat 70 = .ok (.iconst 0, 1) := by decide +kernel
theorem dX12_bestHeat_71 : decode cX12_bestHeat 71 = .ok (.goto 5, 3) := by decide +kernel
theorem dX12_bestHeat_74 : decode cX12_bestHeat 74 = .ok (.iload 4, 2) := by decide +kernel
theorem dX12_bestHeat_76 : decode cX12_bestHeat 76 = .ok (.ireturn, 1) := by decide +kernel
theorem dX12_addWelder_0 : decode cX12_addWelder 0 = .ok (.aload_n 0, 1) := by decide +kernel
theorem dX12_addWelder_1 : decode cX12_addWelder 1 = .ok (.aload_n 0, 1) := by decide +kernel
theorem dX12_addWelder_2 : decode cX12_addWelder 2 = .ok (.getfield 19, 3) := by decide +kernel
theorem dX12_addWelder_5 : decode cX12_addWelder 5 = .ok (.invokeinterface 29 1, 5) := by decide +kernel
theorem dX12_addWelder_10 : decode cX12_addWelder 10 = .ok (.iconst 5, 1) := by decide +kernel
theorem dX12_addWelder_11 : decode cX12_addWelder 11 = .ok (.if_icmp .ne 7, 3) := by decide +kernel
theorem dX12_addWelder_14 : decode cX12_addWelder 14 = .ok (.iconst 1, 1) := by decide +kernel
theorem dX12_addWelder_15 : decode cX12_addWelder 15 = .ok (.goto 4, 3) := by decide +kernel
theorem dX12_addWelder_18 : decode cX12_addWelder 18 = .ok (.iconst 0, 1) := by decide +kernel
theorem dX12_addWelder_19 : decode cX12_addWelder 19 = .ok (.invokevirtual 59, 3) := by decide +kernel
theorem dX12_addWelder_22 : decode cX12_addWelder 22 = .ok (.ifCond .eq 5, 3) := by decide +kernel
theorem dX12_addWelder_25 : decode cX12_addWelder 25 = .ok (.iconst 0, 1) := by decide +kernel
theorem dX12_addWelder_26 : decode cX12_addWelder 26 = .ok (.ireturn, 1) := by decide +kernel
theorem dX12_addWelder_27 : decode cX12_addWelder 27 = .ok (.aload_n 0, 1) := by decide +kernel
theorem dX12_addWelder_28 : decode cX12_addWelder 28 = .ok (.getfield 19, 3) := by decide +kernel
theorem dX12_addWelder_31 : decode cX12_addWelder 31 = .ok (.new 154, 3) := by decide +kernel
theorem dX12_addWelder_34 : decode cX12_addWelder 34 = .ok (.dup, 1) := by decide +kernel
theorem dX12_addWelder_35 : decode cX12_addWelder 35 = .ok (.invokespecial 156, 3) := by decide +kernel
theorem dX12_addWelder_38 : decode cX12_addWelder 38 = .ok (.invokeinterface 65 2, 5) := by decide +kernel
theorem dX12_addWelder_43 : decode cX12_addWelder 43 = .ok (.pop, 1) := by decide +kernel
theorem dX12_addWelder_44 : decode cX12_addWelder 44 = .ok (.aload_n 0, 1) := by decide +kernel
theorem dX12_addWelder_45 : decode cX12_addWelder 45 = .ok (.getfield 19, 3) := by decide +kernel
theorem dX12_addWelder_48 : decode cX12_addWelder 48 = .ok (.invokeinterface 29 1, 5) := by decide +kernel
theorem dX12_addWelder_53 : decode cX12_addWelder 53 = .ok (.iconst 1, 1) := by decide +kernel
theorem dX12_addWelder_54 : decode cX12_addWelder 54 = .ok (.isub, 1) := by decide +kernel
theorem dX12_addWelder_55 : decode cX12_addWelder 55 = .ok (.ireturn, 1) := by decide +kernel
theorem dX12_ticket_0 : decode cX12_ticket 0 = .ok (.aload_n 0, 1) := by decide +kernel
theorem dX12_ticket_1 : decode cX12_ticket 1 = .ok (.aload_n 0, 1) := by decide +kernel
theorem dX12_ticket_2 : decode cX12_ticket 2 = .ok (.iload_n 1, 1) := by decide +kernel
theorem dX12_ticket_3 : decode cX12_ticket 3 = .ok (.invokevirtual 157, 3) := by decide +kernel
theorem dX12_ticket_6 : decode cX12_ticket 6 = .ok (.ifCond .ne 7, 3) := by decide +kernel
theorem dX12_ticket_9 : decode cX12_ticket 9 = .ok (.iconst 1, 1) := by decide +kernel
theorem dX12_ticket_10 : decode cX12_ticket 10 = .ok (.goto 28, 3) := by decide +kernel
theorem dX12_ticket_13 : decode cX12_ticket 13 = .ok (.iload_n 2, 1) := by decide +kernel
theorem dX12_ticket_14 : decode cX12_ticket 14 = .ok (.iconst 0, 1) := by decide +kernel
theorem dX12_ticket_15 : decode cX12_ticket 15 = .ok (.iconst 3, 1) := by decide +kernel
theorem dX12_ticket_16 : decode cX12_ticket 16 = .ok (.invokestatic 35, 3) := by decide +kernel
theorem dX12_ticket_19 : decode cX12_ticket 19 = .ok (.ifCond .eq 18, 3) := by decide +kernel
theorem dX12_ticket_22 : decode cX12_ticket 22 = .ok (.iload_n 3, 1) := by decide +kernel
theorem dX12_ticket_23 : decode cX12_ticket 23 = .ok (.iconst 0, 1) := by decide +kernel
theorem dX12_ticket_24 : decode cX12_ticket 24 = .ok (.sipush 999, 3) := by decide +kernel
theorem dX12_ticket_27 : decode cX12_ticket 27 = .ok (.invokestatic 35, 3) := by decide +kernel
theorem dX12_ticket_30 : decode cX12_ticket 30 = .ok (.ifCond .eq 7, 3) := by decide +kernel
theorem dX12_ticket_33 : decode cX12_ticket 33 = .ok (.iconst 0, 1) := by decide +kernel
theorem dX12_ticket_34 : decode cX12_ticket 34 = .ok (.goto 4, 3) := by decide +kernel
theorem dX12_ticket_37 : decode cX12_ticket 37 = .ok (.iconst 2, 1) := by decide +kernel
theorem dX12_ticket_38 : decode cX12_ticket 38 = .ok (.invokevirtual 59, 3) := by decide +kernel
theorem dX12_ticket_41 : decode cX12_ticket 41 = .ok (.ifCond .eq 5, 3) := by decide +kernel
theorem dX12_ticket_44 : decode cX12_ticket 44 = .ok (.iconst 0, 1) := by decide +kernel
theorem dX12_ticket_45 : decode cX12_ticket 45 = .ok (.ireturn, 1) := by decide +kernel
theorem dX12_ticket_46 : decode cX12_ticket 46 = .ok (.aload_n 0, 1) := by decide +kernel
theorem dX12_ticket_47 : decode cX12_ticket 47 = .ok (.getfield 19, 3) := by decide +kernel
theorem dX12_ticket_50 : decode cX12_ticket 50 = .ok (.iload_n 1, 1) := by decide +kernel
theorem dX12_ticket_51 : decode cX12_ticket 51 = .ok (.invokeinterface 43 2, 5) := by decide +kernel
theorem dX12_ticket_56 : decode cX12_ticket 56 = .ok (.checkcast 154, 3) := by decide +kernel
theorem dX12_ticket_59 : decode cX12_ticket 59 = .ok (.getfield 160, 3) := by decide +kernel
theorem dX12_ticket_62 : decode cX12_ticket 62 = .ok (.iload_n 2, 1) := by decide +kernel
theorem dX12_ticket_63 : decode cX12_ticket 63 = .ok (.iaload, 1) := by decide +kernel
theorem dX12_ticket_64 : decode cX12_ticket 64 = .ok (.istore 4, 2) := by decide +kernel
theorem dX12_ticket_66 : decode cX12_ticket 66 = .ok (.aload_n 0, 1) := by decide +kernel
theorem dX12_ticket_67 : decode cX12_ticket 67 = .ok (.getfield 19, 3) := by decide +kernel
theorem dX12_ticket_70 : decode cX12_ticket 70 = .ok (.iload_n 1, 1) := by decide +kernel
theorem dX12_ticket_71 : decode cX12_ticket 71 = .ok (.invokeinterface 43 2, 5) := by decide +kernel
theorem dX12_ticket_76 : decode cX12_ticket 76 = .ok (.checkcast 154, 3) := by decide +kernel
theorem dX12_ticket_79 : decode cX12_ticket 79 = .ok (.getfield 160, 3) := by decide +kernel
theorem dX12_ticket_82 : decode cX12_ticket 82 = .ok (.iload_n 2, 1) := by decide +kernel
theorem dX12_ticket_83 : decode cX12_ticket 83 = .ok (.iload_n 3, 1) := by decide +kernel
theorem dX12_ticket_84 : decode cX12_ticket 84 = .ok (.iastore, 1) := by decide +kernel
theorem dX12_ticket_85 : decode cX12_ticket 85 = .ok (.iload 4, 2) := by decide +kernel
theorem dX12_ticket_87 : decode cX12_ticket 87 = .ok (.ireturn, 1) := by decide +kernel
theorem dX12_may_0 : decode cX12_may 0 = .ok (.aload_n 0, 1) := by decide +kernel
theorem dX12_may_1 : decode cX12_may 1 = .ok (.iload_n 1, 1) := by decide +kernel
theorem dX12_may_2 : decode cX12_may 2 = .ok (.iload_n 2, 1) := by decide +kernel
theorem dX12_may_3 : decode cX12_may 3 = .ok (.invokevirtual 110, 3) := by decide +kernel
theorem dX12_may_6 : decode cX12_may 6 = .ok (.getfield 96, 3) := by decide +kernel
theorem dX12_may_9 : decode cX12_may 9 = .ok (.istore 4, 2) := by decide +kernel
theorem dX12_may_11 : decode cX12_may 11 = .ok (.aload_n 0, 1) := by decide +kernel
theorem dX12_may_12 : decode cX12_may 12 = .ok (.iload_n 1, 1) := by decide +kernel
theorem dX12_may_13 : decode cX12_may 13 = .ok (.iload_n 2, 1) := by decide +kernel
theorem dX12_may_14 : decode cX12_may 14 = .ok (.iconst 1, 1) := by decide +kernel
theorem dX12_may_15 : decode cX12_may 15 = .ok (.iadd, 1) := by decide +kernel
theorem dX12_may_16 : decode cX12_may 16 = .ok (.invokevirtual 110, 3) := by decide +kernel
theorem dX12_may_19 : decode cX12_may 19 = .ok (.getfield 96, 3) := by decide +kernel
theorem dX12_may_22 : decode cX12_may 22 = .ok (.istore 5, 2) := by decide +kernel
theorem dX12_may_24 : decode cX12_may 24 = .ok (.iload 4, 2) := by decide +kernel
theorem dX12_may_26 : decode cX12_may 26 = .ok (.iconst (-1), 1) := by decide +kernel
theorem dX12_may_27 : decode cX12_may 27 = .ok (.if_icmp .eq 91, 3) := by decide +kernel
theorem dX12_may_30 : decode cX12_may 30 = .ok (.iload 5, 2) := by decide +kernel
theorem dX12_may_32 : decode cX12_may 32 = .ok (.iconst (-1), 1) := by decide +kernel
theorem dX12_may_33 : decode cX12_may 33 = .ok (.if_icmp .eq 85, 3) := by decide +kernel
theorem dX12_may_36 : decode cX12_may 36 = .ok (.aload_n 0, 1) := by decide +kernel
theorem dX12_may_37 : decode cX12_may 37 = .ok (.getfield 16, 3) := by decide +kernel
theorem dX12_may_40 : decode cX12_may 40 = .ok (.iload 4, 2) := by decide +kernel
theorem dX12_may_42 : decode cX12_may 42 = .ok (.invokeinterface 43 2, 5) := by decide +kernel
theorem dX12_may_47 : decode cX12_may 47 = .ok (.checkcast 99, 3) := by decide +kernel
theorem dX12_may_50 : decode cX12_may 50 = .ok (.getfield 147, 3) := by decide +kernel
theorem dX12_may_53 : decode cX12_may 53 = .ok (.aload_n 0, 1) := by decide +kernel
theorem dX12_may_54 : decode cX12_may 54 = .ok (.getfield 16, 3) := by decide +kernel
theorem dX12_may_57 : decode cX12_may 57 = .ok (.iload 5, 2) := by decide +kernel
theorem dX12_may_59 : decode cX12_may 59 = .ok (.invokeinterface 43 2, 5) := by decide +kernel
theorem dX12_may_64 : decode cX12_may 64 = .ok (.checkcast 99, 3) := by decide +kernel
theorem dX12_may_67 : decode cX12_may 67 = .ok (.getfield 147, 3) := by decide +kernel
theorem dX12_may_70 : decode cX12_may 70 = .ok (.if_icmp .ne 48, 3) := by decide +kernel
theorem dX12_may_73 : decode cX12_may 73 = .ok (.aload_n 0, 1) := by decide +kernel
theorem dX12_may_74 : decode cX12_may 74 = .ok (.getfield 19, 3) := by decide +kernel
theorem dX12_may_77 : decode cX12_may 77 = .ok (.iload_n 3, 1) := by decide +kernel
theorem dX12_may_78 : decode cX12_may 78 = .ok (.invokeinterface 43 2, 5) := by decide +kernel
theorem dX12_may_83 : decode cX12_may 83 = .ok (.checkcast 154, 3) := by decide +kernel
theorem dX12_may_86 : decode cX12_may 86 = .ok (.getfield 160, 3) := by decide +kernel
theorem dX12_may_89 : decode cX12_may 89 = .ok (.aload_n 0, 1) := by decide +kernel
theorem dX12_may_90 : decode cX12_may 90 = .ok (.getfield 16, 3) := by decide +kernel
theorem dX12_may_93 : decode cX12_may 93 = .ok (.iload 4, 2) := by decide +kernel
theorem dX12_may_95 : decode cX12_may 95 = .ok (.invokeinterface 43 2, 5) := by decide +kernel
theorem dX12_may_100 : decode cX12_may 100 = .ok (.checkcast 99, 3) := by decide +kernel
theorem dX12_may_103 : decode cX12_may 103 = .ok (.getfield 147, 3) := by decide +kernel
theorem dX12_may_106 : decode cX12_may 106 = .ok (.iaload, 1) := by decide +kernel
theorem dX12_may_107 : decode cX12_may 107 = .ok (.aload_n 0, 1) := by decide +kernel
theorem dX12_may_108 : decode cX12_may 108 = .ok (.getfield 164, 3) := by decide +kernel
theorem dX12_may_111 : decode cX12_may 111 = .ok (.if_icmp .lt 7, 3) := by decide +kernel
theorem dX12_may_114 : decode cX12_may 114 = .ok (.iconst 1, 1) := by decide +kernel
theorem dX12_may_115 : decode cX12_may 115 = .ok (.goto 4, 3) := by decide +kernel
theorem dX12_may_118 : decode cX12_may 118 = .ok (.iconst 0, 1) := by decide +kernel
theorem dX12_may_119 : decode cX12_may 119 = .ok (.ireturn, 1) := by decide +kernel
theorem dX12_mayWeld_0 : decode cX12_mayWeld 0 = .ok (.aload_n 0, 1) := by decide +kernel
theorem dX12_mayWeld_1 : decode cX12_mayWeld 1 = .ok (.aload_n 0, 1) := by decide +kernel
theorem dX12_mayWeld_2 : decode cX12_mayWeld 2 = .ok (.iload_n 1, 1) := by decide +kernel
theorem dX12_mayWeld_3 : decode cX12_mayWeld 3 = .ok (.iload_n 2, 1) := by decide +kernel
theorem dX12_mayWeld_4 : decode cX12_mayWeld 4 = .ok (.invokevirtual 77, 3) := by decide +kernel
theorem dX12_mayWeld_7 : decode cX12_mayWeld 7 = .ok (.ifCond .eq 15, 3) := by decide +kernel
theorem dX12_mayWeld_10 : decode cX12_mayWeld 10 = .ok (.aload_n 0, 1) := by decide +kernel
theorem dX12_mayWeld_11 : decode cX12_mayWeld 11 = .ok (.iload_n 3, 1) := by decide +kernel
theorem dX12_mayWeld_12 : decode cX12_mayWeld 12 = .ok (.invokevirtual 157, 3) := by decide +kernel
theorem dX12_mayWeld_15 : decode cX12_mayWeld 15 = .ok (.ifCond .eq 7, 3) := by decide +kernel
theorem dX12_mayWeld_18 : decode cX12_mayWeld 18 = .ok (.iconst 0, 1) := by decide +kernel
theorem dX12_mayWeld_19 : decode cX12_mayWeld 19 = .ok (.goto 4, 3) := by decide +kernel
theorem dX12_mayWeld_22 : decode cX12_mayWeld 22 = .ok (.iconst 1, 1) := by decide +kernel
theorem dX12_mayWeld_23 : decode cX12_mayWeld 23 = .ok (.invokevirtual 59, 3) := by decide +kernel
theorem dX12_mayWeld_26 : decode cX12_mayWeld 26 = .ok (.ifCond .ne 17, 3) := by decide +kernel
theorem dX12_mayWeld_29 : decode cX12_mayWeld 29 = .ok (.aload_n 0, 1) := by decide +kernel
theorem dX12_mayWeld_30 : decode cX12_mayWeld 30 = .ok (.iload_n 1, 1) := by decide +kernel
theorem dX12_mayWeld_31 : decode cX12_mayWeld 31 = .ok (.iload_n 2, 1) := by decide +kernel
theorem dX12_mayWeld_32 : decode cX12_mayWeld 32 = .ok (.iload_n 3, 1) := by decide +kernel
theorem dX12_mayWeld_33 : decode cX12_mayWeld 33 = .ok (.invokevirtual 167, 3) := by decide +kernel
theorem dX12_mayWeld_36 : decode cX12_mayWeld 36 = .ok (.ifCond .eq 7, 3) := by decide +kernel
theorem dX12_mayWeld_39 : decode cX12_mayWeld 39 = .ok (.iconst 1, 1) := by decide +kernel
theorem dX12_mayWeld_40 : decode cX12_mayWeld 40 = .ok (.goto 4, 3) := by decide +kernel
theorem dX12_mayWeld_43 : decode cX12_mayWeld 43 = .ok (.iconst 0, 1) := by decide +kernel
theorem dX12_mayWeld_44 : decode cX12_mayWeld 44 = .ok (.ireturn, 1) := by decide +kernel
theorem dX12_welds_0 : decode cX12_welds 0 = .ok (.aload_n 0, 1) := by decide +kernel
theorem dX12_welds_1 : decode cX12_welds 1 = .ok (.iload_n 1, 1) := by decide +kernel
theorem dX12_welds_2 : decode cX12_welds 2 = .ok (.iload_n 2, 1) := by decide +kernel
theorem dX12_welds_3 : decode cX12_welds 3 = .ok (.invokevirtual 81, 3) := by decide +kernel
theorem dX12_welds_6 : decode cX12_welds 6 = .ok (.bipush 119, 2) := by decide +kernel
theorem dX12_welds_8 : decode cX12_welds 8 = .ok (.putfield 85, 3) := by decide +kernel
theorem dX12_welds_11 : decode cX12_welds 11 = .ok (.aload_n 0, 1) := by decide +kernel
theorem dX12_welds_12 : decode cX12_welds 12 = .ok (.iload_n 1, 1) := by decide +kernel
theorem dX12_welds_13 : decode cX12_welds 13 = .ok (.iload_n 2, 1) := by decide +kernel
theorem dX12_welds_14 : decode cX12_welds 14 = .ok (.invokevirtual 81, 3) := by decide +kernel
theorem dX12_welds_17 : decode cX12_welds 17 = .ok (.iload_n 3, 1) := by decide +kernel
theorem dX12_welds_18 : decode cX12_welds 18 = .ok (.putfield 170, 3) := by decide +kernel
theorem dX12_welds_21 : decode cX12_welds 21 = .ok (.aload_n 0, 1) := by decide +kernel
theorem dX12_welds_22 : decode cX12_welds 22 = .ok (.getfield 10, 3) := by decide +kernel
theorem dX12_welds_25 : decode cX12_welds 25 = .ok (.iload_n 1, 1) := by decide +kernel
theorem dX12_welds_26 : decode cX12_welds 26 = .ok (.invokeinterface 43 2, 5) := by decide +kernel
theorem dX12_welds_31 : decode cX12_welds 31 = .ok (.checkcast 47, 3) := by decide +kernel
theorem dX12_welds_34 : decode cX12_welds 34 = .ok (.iconst 0, 1) := by decide +kernel
theorem dX12_welds_35 : decode cX12_welds 35 = .ok (.putfield 73, 3) := by decide +kernel
theorem dX12_welds_38 : decode cX12_welds 38 = .ok (.return_, 1) := by decide +kernel
theorem dX12_weld_0 : decode cX12_weld 0 = .ok (.aload_n 0, 1) := by decide +kernel
theorem dX12_weld_1 : decode cX12_weld 1 = .ok (.aload_n 0, 1) := by decide +kernel
theorem dX12_weld_2 : decode cX12_weld 2 = .ok (.iload_n 1, 1) := by decide +kernel
theorem dX12_weld_3 : decode cX12_weld 3 = .ok (.iload_n 2, 1) := by decide +kernel
theorem dX12_weld_4 : decode cX12_weld 4 = .ok (.invokevirtual 77, 3) := by decide +kernel
theorem dX12_weld_7 : decode cX12_weld 7 = .ok (.ifCond .eq 11, 3) := by decide +kernel
theorem dX12_weld_10 : decode cX12_weld 10 = .ok (.aload_n 0, 1) := by decide +kernel
theorem dX12_weld_11 : decode cX12_weld 11 = .ok (.iload_n 3, 1) := by decide +kernel
theorem dX12_weld_12 : decode cX12_weld 12 = .ok (.invokevirtual 157, 3) := by decide +kernel
theorem dX12_weld_15 : decode cX12_weld 15 = .ok (.ifCond .ne 7, 3) := by decide +kernel
theorem dX12_weld_18 : decode cX12_weld 18 = .ok (.iconst 1, 1) := by decide +kernel
theorem dX12_weld_19 : decode cX12_weld 19 = .ok (.goto 32, 3) := by decide +kernel
theorem dX12_weld_22 : decode cX12_weld 22 = .ok (.aload_n 0, 1) := by decide +kernel
theorem dX12_weld_23 : decode cX12_weld 23 = .ok (.iload_n 1, 1) := by decide +kernel
theorem dX12_weld_24 : decode cX12_weld 24 = .ok (.iload_n 2, 1) := by decide +kernel
theorem dX12_weld_25 : decode cX12_weld 25 = .ok (.invokevirtual 81, 3) := by decide +kernel
theorem dX12_weld_28 : decode cX12_weld 28 = .ok (.getfield 85, 3) := by decide +kernel
theorem dX12_weld_31 : decode cX12_weld 31 = .ok (.bipush 110, 2) := by decide +kernel
theorem dX12_weld_33 : decode cX12_weld 33 = .ok (.if_icmp .ne 13, 3) := by decide +kernel
theorem dX12_weld_36 : decode cX12_weld 36 = .ok (.aload_n 0, 1) := by decide +kernel
theorem dX12_weld_37 : decode cX12_weld 37 = .ok (.iload_n 1, 1) := by decide +kernel
theorem dX12_weld_38 : decode cX12_weld 38 = .ok (.iload_n 2, 1) := by decide +kernel
theorem dX12_weld_39 : decode cX12_weld 39 = .ok (.iload_n 3, 1) := by decide +kernel
theorem dX12_weld_40 : decode cX12_weld 40 = .ok (.invokevirtual 167, 3) := by decide +kernel
theorem dX12_weld_43 : decode cX12_weld 43 = .ok (.ifCond .ne 7, 3) := by decide +kernel
theorem dX12_weld_46 : decode cX12_weld 46 = .ok (.iconst 2, 1) := by decide +kernel
theorem dX12_weld_47 : decode cX12_weld 47 = .ok (.goto 4, 3) := by decide +kernel
theorem dX12_weld_50 : decode cX12_weld 50 = .ok (.iconst 0, 1) := by decide +kernel
theorem dX12_weld_51 : decode cX12_weld 51 = .ok (.invokevirtual 59, 3) := by decide +kernel
theorem dX12_weld_54 : decode cX12_weld 54 = .ok (.ifCond .eq 5, 3) := by decide +kernel
theorem dX12_weld_57 : decode cX12_weld 57 = .ok (.iconst 0, 1) := by decide +kernel
theorem dX12_weld_58 : decode cX12_weld 58 = .ok (.ireturn, 1) := by decide +kernel
theorem dX12_weld_59 : decode cX12_weld 59 = .ok (.aload_n 0, 1) := by decide +kernel
theorem dX12_weld_60 : decode cX12_weld 60 = .ok (.iload_n 1, 1) := by decide +kernel
theorem dX12_weld_61 : decode cX12_weld 61 = .ok (.iload_n 2, 1) := by decide +kernel
theorem dX12_weld_62 : decode cX12_weld 62 = .ok (.iload_n 3, 1) := by decide +kernel
theorem dX12_weld_63 : decode cX12_weld 63 = .ok (.invokevirtual 173, 3) := by decide +kernel
theorem dX12_weld_66 : decode cX12_weld 66 = .ok (.aload_n 0, 1) := by decide +kernel
theorem dX12_weld_67 : decode cX12_weld 67 = .ok (.getfield 10, 3) := by decide +kernel
theorem dX12_weld_70 : decode cX12_weld 70 = .ok (.iload_n 1, 1) := by decide +kernel
theorem dX12_weld_71 : decode cX12_weld 71 = .ok (.invokeinterface 43 2, 5) := by decide +kernel
theorem dX12_weld_76 : decode cX12_weld 76 = .ok (.checkcast 47, 3) := by decide +kernel
theorem dX12_weld_79 : decode cX12_weld 79 = .ok (.ldc 177, 2) := by decide +kernel
theorem dX12_weld_81 : decode cX12_weld 81 = .ok (.invokevirtual 179, 3) := by decide +kernel
theorem dX12_weld_84 : decode cX12_weld 84 = .ok (.ireturn, 1) := by decide +kernel
theorem dX12_look_0 : decode cX12_look 0 = .ok (.aload_n 0, 1) := by decide +kernel
theorem dX12_look_1 : decode cX12_look 1 = .ok (.aload_n 0, 1) := by decide +kernel
theorem dX12_look_2 : decode cX12_look 2 = .ok (.iload_n 1, 1) := by decide +kernel
theorem dX12_look_3 : decode cX12_look 3 = .ok (.iload_n 2, 1) := by decide +kernel
theorem dX12_look_4 : decode cX12_look 4 = .ok (.invokevirtual 77, 3) := by decide +kernel
theorem dX12_look_7 : decode cX12_look 7 = .ok (.ifCond .ne 7, 3) := by decide +kernel
theorem dX12_look_10 : decode cX12_look 10 = .ok (.iconst 1, 1) := by decide +kernel
theorem dX12_look_11 : decode cX12_look 11 = .ok (.goto 22, 3) := by decide +kernel
theorem dX12_look_14 : decode cX12_look 14 = .ok (.aload_n 0, 1) := by decide +kernel
theorem dX12_look_15 : decode cX12_look 15 = .ok (.iload_n 1, 1) := by decide +kernel
theorem dX12_look_16 : decode cX12_look 16 = .ok (.iload_n 2, 1) := by decide +kernel
theorem dX12_look_17 : decode cX12_look 17 = .ok (.invokevirtual 81, 3) := by decide +kernel
theorem dX12_look_20 : decode cX12_look 20 = .ok (.getfield 85, 3) := by decide +kernel
theorem dX12_look_23 : decode cX12_look 23 = .ok (.bipush 119, 2) := by decide +kernel
theorem dX12_look_25 : decode cX12_look 25 = .ok (.if_icmp .ne 7, 3) := by decide +kernel
theorem dX12_look_28 : decode cX12_look 28 = .ok (.iconst 0, 1) := by decide +kernel
theorem dX12_look_29 : decode cX12_look 29 = .ok (.goto 4, 3) := by decide +kernel
theorem dX12_look_32 : decode cX12_look 32 = .ok (.iconst 2, 1) := by decide +kernel
theorem dX12_look_33 : decode cX12_look 33 = .ok (.invokevirtual 59, 3) := by decide +kernel
theorem dX12_look_36 : decode cX12_look 36 = .ok (.ifCond .eq 6, 3) := by decide +kernel
theorem dX12_look_39 : decode cX12_look 39 = .ok (.bipush 32, 2) := by decide +kernel
theorem dX12_look_41 : decode cX12_look 41 = .ok (.ireturn, 1) := by decide +kernel
theorem dX12_look_42 : decode cX12_look 42 = .ok (.aload_n 0, 1) := by decide +kernel
theorem dX12_look_43 : decode cX12_look 43 = .ok (.iload_n 1, 1) := by decide +kernel
theorem dX12_look_44 : decode cX12_look 44 = .ok (.iload_n 2, 1) := by decide +kernel
theorem dX12_look_45 : decode cX12_look 45 = .ok (.invokevirtual 81, 3) := by decide +kernel
theorem dX12_look_48 : decode cX12_look 48 = .ok (.astore 4, 2) := by decide +kernel
theorem dX12_look_50 : decode cX12_look 50 = .ok (.aload 4, 2) := by decide +kernel
theorem dX12_look_52 : decode cX12_look 52 = .ok (.iload_n 3, 1) := by decide +kernel
theorem dX12_look_53 : decode cX12_look 53 = .ok (.ifCond .eq 8, 3) := by decide +kernel
theorem dX12_look_56 : decode cX12_look 56 = .ok (.bipush 103, 2) := by decide +kernel
theorem dX12_look_58 : decode cX12_look 58 = .ok (.goto 5, 3) := by decide +kernel
theorem dX12_look_61 : decode cX12_look 61 = .ok (.bipush 98, 2) := by decide +kernel
theorem dX12_look_63 : decode cX12_look 63 = .ok (.putfield 85, 3) := by decide +kernel
theorem dX12_look_66 : decode cX12_look 66 = .ok (.iload_n 3, 1) := by decide +kernel
theorem dX12_look_67 : decode cX12_look 67 = .ok (.ifCond .ne 68, 3) := by decide +kernel
theorem dX12_look_70 : decode cX12_look 70 = .ok (.aload_n 0, 1) := by decide +kernel
theorem dX12_look_71 : decode cX12_look 71 = .ok (.getfield 19, 3) := by decide +kernel
theorem dX12_look_74 : decode cX12_look 74 = .ok (.aload 4, 2) := by decide +kernel
theorem dX12_look_76 : decode cX12_look 76 = .ok (.getfield 170, 3) := by decide +kernel
theorem dX12_look_79 : decode cX12_look 79 = .ok (.invokeinterface 43 2, 5) := by decide +kernel
theorem dX12_look_84 : decode cX12_look 84 = .ok (.checkcast 154, 3) := by decide +kernel
theorem dX12_look_87 : decode cX12_look 87 = .ok (.dup, 1) := by decide +kernel
theorem dX12_look_88 : decode cX12_look 88 = .ok (.getfield 183, 3) := by decide +kernel
theorem dX12_look_91 : decode cX12_look 91 = .ok (.iconst 1, 1) := by decide +kernel
theorem dX12_look_92 : decode cX12_look 92 = .ok (.iadd, 1) := by decide +kernel
theorem dX12_look_93 : decode cX12_look 93 = .ok (.putfield 183, 3) := by decide +kernel
theorem dX12_look_96 : decode cX12_look 96 = .ok (.aload_n 0, 1) := by decide +kernel
theorem dX12_look_97 : decode cX12_look 97 = .ok (.getfield 10, 3) := by decide +kernel
theorem dX12_look_100 : decode cX12_look 100 = .ok (.iload_n 1, 1) := by decide +kernel
theorem dX12_look_101 : decode cX12_look 101 = .ok (.invokeinterface 43 2, 5) := by decide +kernel
theorem dX12_look_106 : decode cX12_look 106 = .ok (.checkcast 47, 3) := by decide +kernel
theorem dX12_look_109 : decode cX12_look 109 = .ok (.dup, 1) := by decide +kernel
theorem dX12_look_110 : decode cX12_look 110 = .ok (.getfield 186, 3) := by decide +kernel
theorem dX12_look_113 : decode cX12_look 113 = .ok (.iconst 1, 1) := by decide +kernel
theorem dX12_look_114 : decode cX12_look 114 = .ok (.iadd, 1) := by decide +kernel
theorem dX12_look_115 : decode cX12_look 115 = .ok (.putfield 186, 3) := by decide +kernel
theorem dX12_look_118 : decode cX12_look 118 = .ok (.aload_n 0, 1) := by decide +kernel
theorem dX12_look_119 : decode cX12_look 119 = .ok (.getfield 10, 3) := by decide +kernel
theorem dX12_look_122 : decode cX12_look 122 = .ok (.iload_n 1, 1) := by decide +kernel
theorem dX12_look_123 : decode cX12_look 123 = .ok (.invokeinterface 43 2, 5) := by decide +kernel
theorem dX12_look_128 : decode cX12_look 128 = .ok (.checkcast 47, 3) := by decide +kernel
theorem dX12_look_131 : decode cX12_look 131 = .ok (.iconst 0, 1) := by decide +kernel
theorem dX12_look_132 : decode cX12_look 132 = .ok (.putfield 73, 3) := by decide +kernel
theorem dX12_look_135 : decode cX12_look 135 = .ok (.aload 4, 2) := by decide +kernel
theorem dX12_look_137 : decode cX12_look 137 = .ok (.getfield 85, 3) := by decide +kernel
theorem dX12_look_140 : decode cX12_look 140 = .ok (.ireturn, 1) := by decide +kernel
theorem dX12_repair_0 : decode cX12_repair 0 = .ok (.aload_n 0, 1) := by decide +kernel
theorem dX12_repair_1 : decode cX12_repair 1 = .ok (.aload_n 0, 1) := by decide +kernel
theorem dX12_repair_2 : decode cX12_repair 2 = .ok (.iload_n 1, 1) := by decide +kernel
theorem dX12_repair_3 : decode cX12_repair 3 = .ok (.iload_n 2, 1) := by decide +kernel
theorem dX12_repair_4 : decode cX12_repair 4 = .ok (.invokevirtual 77, 3) := by decide +kernel
theorem dX12_repair_7 : decode cX12_repair 7 = .ok (.ifCond .eq 11, 3) := by decide +kernel
theorem dX12_repair_10 : decode cX12_repair 10 = .ok (.aload_n 0, 1) := by decide +kernel
theorem dX12_repair_11 : decode cX12_repair 11 = .ok (.iload_n 3, 1) := by decide +kernel
theorem dX12_repair_12 : decode cX12_repair 12 = .ok (.invokevirtual 157, 3) := by decide +kernel
theorem dX12_repair_15 : decode cX12_repair 15 = .ok (.ifCond .ne 7, 3) := by decide +kernel
theorem dX12_repair_18 : decode cX12_repair 18 = .ok (.iconst 1, 1) := by decide +kernel
theorem dX12_repair_19 : decode cX12_repair 19 = .ok (.goto 45, 3) := by decide +kernel
theorem dX12_repair_22 : decode cX12_repair 22 = .ok (.aload_n 0, 1) := by decide +kernel
theorem dX12_repair_23 : decode cX12_repair 23 = .ok (.iload_n 1, 1) := by decide +kernel
theorem dX12_repair_24 : decode cX12_repair 24 = .ok (.iload_n 2, 1) := by decide +kernel
theorem dX12_repair_25 : decode cX12_repair 25 = .ok (.invokevirtual 81, 3) := by decide +kernel
theorem dX12_repair_28 : decode cX12_repair 28 = .ok (.getfield 85, 3) := by decide +kernel
theorem dX12_repair_31 : decode cX12_repair 31 = .ok (.bipush 98, 2) := by decide +kernel
theorem dX12_repair_33 : decode cX12_repair 33 = .ok (.if_icmp .ne 26, 3) := by decide +kernel
theorem dX12_repair_36 : decode cX12_repair 36 = .ok (.aload_n 0, 1) := by decide +kernel
theorem dX12_repair_37 : decode cX12_repair 37 = .ok (.iload_n 1, 1) := by decide +kernel
theorem dX12_repair_38 : decode cX12_repair 38 = .ok (.iload_n 2, 1) := by decide +kernel
theorem dX12_repair_39 : decode cX12_repair 39 = .ok (.invokevirtual 81, 3) := by decide +kernel
theorem dX12_repair_42 : decode cX12_repair 42 = .ok (.getfield 189, 3) := by decide +kernel
theorem dX12_repair_45 : decode cX12_repair 45 = .ok (.iconst 2, 1) := by decide +kernel
theorem dX12_repair_46 : decode cX12_repair 46 = .ok (.if_icmp .eq 13, 3) := by decide +kernel
theorem dX12_repair_49 : decode cX12_repair 49 = .ok (.aload_n 0, 1) := by decide +kernel
theorem dX12_repair_50 : decode cX12_repair 50 = .ok (.iload_n 1, 1) := by decide +kernel
theorem dX12_repair_51 : decode cX12_repair 51 = .ok (.iload_n 2, 1) := by decide +kernel
theorem dX12_repair_52 : decode cX12_repair 52 = .ok (.iload_n 3, 1) := by decide +kernel
theorem dX12_repair_53 : decode cX12_repair 53 = .ok (.invokevirtual 167, 3) := by decide +kernel
theorem dX12_repair_56 : decode cX12_repair 56 = .ok (.ifCond .ne 7, 3) := by decide +kernel
theorem dX12_repair_59 : decode cX12_repair 59 = .ok (.iconst 2, 1) := by decide +kernel
theorem dX12_repair_60 : decode cX12_repair 60 = .ok (.goto 4, 3) := by decide +kernel
theorem dX12_repair_63 : decode cX12_repair 63 = .ok (.iconst 0, 1) := by decide +kernel
theorem dX12_repair_64 : decode cX12_repair 64 = .ok (.invokevirtual 59, 3) := by decide +kernel
theorem dX12_repair_67 : decode cX12_repair 67 = .ok (.ifCond .eq 5, 3) := by decide +kernel
theorem dX12_repair_70 : decode cX12_repair 70 = .ok (.iconst 0, 1) := by decide +kernel
theorem dX12_repair_71 : decode cX12_repair 71 = .ok (.ireturn, 1) := by decide +kernel
theorem dX12_repair_72 : decode cX12_repair 72 = .ok (.aload_n 0, 1) := by decide +kernel
theorem dX12_repair_73 : decode cX12_repair 73 = .ok (.iload_n 1, 1) := by decide +kernel
theorem dX12_repair_74 : decode cX12_repair 74 = .ok (.iload_n 2, 1) := by decide +kernel
theorem dX12_repair_75 : decode cX12_repair 75 = .ok (.iload_n 3, 1) := by decide +kernel
theorem dX12_repair_76 : decode cX12_repair 76 = .ok (.invokevirtual 173, 3) := by decide +kernel
theorem dX12_repair_79 : decode cX12_repair 79 = .ok (.aload_n 0, 1) := by decide +kernel
theorem dX12_repair_80 : decode cX12_repair 80 = .ok (.iload_n 1, 1) := by decide +kernel
theorem dX12_repair_81 : decode cX12_repair 81 = .ok (.iload_n 2, 1) := by decide +kernel
theorem dX12_repair_82 : decode cX12_repair 82 = .ok (.invokevirtual 81, 3) := by decide +kernel
theorem dX12_repair_85 : decode cX12_repair 85 = .ok (.dup, 1) := by decide +kernel
theorem dX12_repair_86 : decode cX12_repair 86 = .ok (.getfield 189, 3) := by decide +kernel
theorem dX12_repair_89 : decode cX12_repair 89 = .ok (.iconst 1, 1) := by decide +kernel
theorem dX12_repair_90 : decode cX12_repair 90 = .ok (.iadd, 1) := by decide +kernel
theorem dX12_repair_91 : decode cX12_repair 91 = .ok (.putfield 189, 3) := by decide +kernel
theorem dX12_repair_94 : decode cX12_repair 94 = .ok (.aload_n 0, 1) := by decide +kernel
theorem dX12_repair_95 : decode cX12_repair 95 = .ok (.iload_n 1, 1) := by decide +kernel
theorem dX12_repair_96 : decode cX12_repair 96 = .ok (.iload_n 2, 1) := by decide +kernel
theorem dX12_repair_97 : decode cX12_repair 97 = .ok (.invokevirtual 81, 3) := by decide +kernel
theorem dX12_repair_100 : decode cX12_repair 100 = .ok (.getfield 189, 3) := by decide +kernel
theorem dX12_repair_103 : decode cX12_repair 103 = .ok (.ireturn, 1) := by decide +kernel
theorem dX12_cutOut_0 : decode cX12_cutOut 0 = .ok (.aload_n 0, 1) := by decide +kernel
theorem dX12_cutOut_1 : decode cX12_cutOut 1 = .ok (.aload_n 0, 1) := by decide +kernel
theorem dX12_cutOut_2 : decode cX12_cutOut 2 = .ok (.iload_n 1, 1) := by decide +kernel
theorem dX12_cutOut_3 : decode cX12_cutOut 3 = .ok (.iload_n 2, 1) := by decide +kernel
theorem dX12_cutOut_4 : decode cX12_cutOut 4 = .ok (.invokevirtual 77, 3) := by decide +kernel
theorem dX12_cutOut_7 : decode cX12_cutOut 7 = .ok (.ifCond .ne 7, 3) := by decide +kernel
theorem dX12_cutOut_10 : decode cX12_cutOut 10 = .ok (.iconst 1, 1) := by decide +kernel
theorem dX12_cutOut_11 : decode cX12_cutOut 11 = .ok (.goto 35, 3) := by decide +kernel
theorem dX12_cutOut_14 : decode cX12_cutOut 14 = .ok (.aload_n 0, 1) := by decide +kernel
theorem dX12_cutOut_15 : decode cX12_cutOut 15 = .ok (.iload_n 1, 1) := by decide +kernel
theorem dX12_cutOut_16 : decode cX12_cutOut 16 = .ok (.iload_n 2, 1) := by decide +kernel
theorem dX12_cutOut_17 : decode cX12_cutOut 17 = .ok (.invokevirtual 81, 3) := by decide +kernel
theorem dX12_cutOut_20 : decode cX12_cutOut 20 = .ok (.getfield 85, 3) := by decide +kernel
theorem dX12_cutOut_23 : decode cX12_cutOut 23 = .ok (.bipush 98, 2) := by decide +kernel
theorem dX12_cutOut_25 : decode cX12_cutOut 25 = .ok (.if_icmp .ne 20, 3) := by decide +kernel
theorem dX12_cutOut_28 : decode cX12_cutOut 28 = .ok (.aload_n 0, 1) := by decide +kernel
theorem dX12_cutOut_29 : decode cX12_cutOut 29 = .ok (.iload_n 1, 1) := by decide +kernel
theorem dX12_cutOut_30 : decode cX12_cutOut 30 = .ok (.iload_n 2, 1) := by decide +kernel
theorem dX12_cutOut_31 : decode cX12_cutOut 31 = .ok (.invokevirtual 81, 3) := by decide +kernel
theorem dX12_cutOut_34 : decode cX12_cutOut 34 = .ok (.getfield 189, 3) := by decide +kernel
theorem dX12_cutOut_37 : decode cX12_cutOut 37 = .ok (.iconst 2, 1) := by decide +kernel
theorem dX12_cutOut_38 : decode cX12_cutOut 38 = .ok (.if_icmp .ne 7, 3) := by decide +kernel
theorem dX12_cutOut_41 : decode cX12_cutOut 41 = .ok (.iconst 0, 1) := by decide +kernel
theorem dX12_cutOut_42 : decode cX12_cutOut 42 = .ok (.goto 4, 3) := by decide +kernel
theorem dX12_cutOut_45 : decode cX12_cutOut 45 = .ok (.iconst 2, 1) := by decide +kernel
theorem dX12_cutOut_46 : decode cX12_cutOut 46 = .ok (.invokevirtual 59, 3) := by decide +kernel
theorem dX12_cutOut_49 : decode cX12_cutOut 49 = .ok (.ifCond .eq 5, 3) := by decide +kernel
theorem dX12_cutOut_52 : decode cX12_cutOut 52 = .ok (.iconst 0, 1) := by decide +kernel
theorem dX12_cutOut_53 : decode cX12_cutOut 53 = .ok (.ireturn, 1) := by decide +kernel
theorem dX12_cutOut_54 : decode cX12_cutOut 54 = .ok (.aload_n 0, 1) := by decide +kernel
theorem dX12_cutOut_55 : decode cX12_cutOut 55 = .ok (.getfield 10, 3) := by decide +kernel
theorem dX12_cutOut_58 : decode cX12_cutOut 58 = .ok (.iload_n 1, 1) := by decide +kernel
theorem dX12_cutOut_59 : decode cX12_cutOut 59 = .ok (.invokeinterface 43 2, 5) := by decide +kernel
theorem dX12_cutOut_64 : decode cX12_cutOut 64 = .ok (.checkcast 47, 3) := by decide +kernel
theorem dX12_cutOut_67 : decode cX12_cutOut 67 = .ok (.getfield 52, 3) := by decide +kernel
theorem dX12_cutOut_70 : decode cX12_cutOut 70 = .ok (.iload_n 2, 1) := by decide +kernel
theorem dX12_cutOut_71 : decode cX12_cutOut 71 = .ok (.new 57, 3) := by decide +kernel
theorem dX12_cutOut_74 : decode cX12_cutOut 74 = .ok (.dup, 1) := by decide +kernel
theorem dX12_cutOut_75 : decode cX12_cutOut 75 = .ok (.invokespecial 72, 3) := by decide +kernel
theorem dX12_cutOut_78 : decode cX12_cutOut 78 = .ok (.invokeinterface 89 3, 5) := by decide +kernel
theorem dX12_cutOut_83 : decode cX12_cutOut 83 = .ok (.pop, 1) := by decide +kernel
theorem dX12_cutOut_84 : decode cX12_cutOut 84 = .ok (.aload_n 0, 1) := by decide +kernel
theorem dX12_cutOut_85 : decode cX12_cutOut 85 = .ok (.getfield 10, 3) := by decide +kernel
theorem dX12_cutOut_88 : decode cX12_cutOut 88 = .ok (.iload_n 1, 1) := by decide +kernel
theorem dX12_cutOut_89 : decode cX12_cutOut 89 = .ok (.invokeinterface 43 2, 5) := by decide +kernel
theorem dX12_cutOut_94 : decode cX12_cutOut 94 = .ok (.checkcast 47, 3) := by decide +kernel
theorem dX12_cutOut_97 : decode cX12_cutOut 97 = .ok (.iconst 0, 1) := by decide +kernel
theorem dX12_cutOut_98 : decode cX12_cutOut 98 = .ok (.putfield 73, 3) := by decide +kernel
theorem dX12_cutOut_101 : decode cX12_cutOut 101 = .ok (.aload_n 0, 1) := by decide +kernel
theorem dX12_cutOut_102 : decode cX12_cutOut 102 = .ok (.dup, 1) := by decide +kernel
theorem dX12_cutOut_103 : decode cX12_cutOut 103 = .ok (.getfield 192, 3) := by decide +kernel
theorem dX12_cutOut_106 : decode cX12_cutOut 106 = .ok (.iconst 1, 1) := by decide +kernel
theorem dX12_cutOut_107 : decode cX12_cutOut 107 = .ok (.iadd, 1) := by decide +kernel
theorem dX12_cutOut_108 : decode cX12_cutOut 108 = .ok (.putfield 192, 3) := by decide +kernel
theorem dX12_cutOut_111 : decode cX12_cutOut 111 = .ok (.aload_n 0, 1) := by decide +kernel
theorem dX12_cutOut_112 : decode cX12_cutOut 112 = .ok (.getfield 192, 3) := by decide +kernel
theorem dX12_cutOut_115 : decode cX12_cutOut 115 = .ok (.ireturn, 1) := by decide +kernel
theorem dX12_joint_0 : decode cX12_joint 0 = .ok (.aload_n 0, 1) := by decide +kernel
theorem dX12_joint_1 : decode cX12_joint 1 = .ok (.aload_n 0, 1) := by decide +kernel
theorem dX12_joint_2 : decode cX12_joint 2 = .ok (.iload_n 1, 1) := by decide +kernel
theorem dX12_joint_3 : decode cX12_joint 3 = .ok (.iload_n 2, 1) := by decide +kernel
theorem dX12_joint_4 : decode cX12_joint 4 = .ok (.invokevirtual 77, 3) := by decide +kernel
theorem dX12_joint_7 : decode cX12_joint 7 = .ok (.ifCond .eq 7, 3) := by decide +kernel
theorem dX12_joint_10 : decode cX12_joint 10 = .ok (.iconst 0, 1) := by decide +kernel
theorem dX12_joint_11 : decode cX12_joint 11 = .ok (.goto 4, 3) := by decide +kernel
theorem dX12_joint_14 : decode cX12_joint 14 = .ok (.iconst 1, 1) := by decide +kernel
theorem dX12_joint_15 : decode cX12_joint 15 = .ok (.invokevirtual 59, 3) := by decide +kernel
theorem dX12_joint_18 : decode cX12_joint 18 = .ok (.ifCond .eq 8, 3) := by decide +kernel
theorem dX12_joint_21 : decode cX12_joint 21 = .ok (.bipush 32, 2) := by decide +kernel
theorem dX12_joint_23 : decode cX12_joint 23 = .ok (.goto 12, 3) := by decide +kernel
theorem dX12_joint_26 : decode cX12_joint 26 = .ok (.aload_n 0, 1) := by decide +kernel
theorem dX12_joint_27 : decode cX12_joint 27 = .ok (.iload_n 1, 1) := by decide +kernel
theorem dX12_joint_28 : decode cX12_joint 28 = .ok (.iload_n 2, 1) := by decide +kernel
theorem dX12_joint_29 : decode cX12_joint 29 = .ok (.invokevirtual 81, 3) := by decide +kernel
theorem dX12_joint_32 : decode cX12_joint 32 = .ok (.getfield 85, 3) := by decide +kernel
theorem dX12_joint_35 : decode cX12_joint 35 = .ok (.ireturn, 1) := by decide +kernel
theorem dX12_welderOf_0 : decode cX12_welderOf 0 = .ok (.aload_n 0, 1) := by decide +kernel
theorem dX12_welderOf_1 : decode cX12_welderOf 1 = .ok (.aload_n 0, 1) := by decide +kernel
theorem dX12_welderOf_2 : decode cX12_welderOf 2 = .ok (.iload_n 1, 1) := by decide +kernel
theorem dX12_welderOf_3 : decode cX12_welderOf 3 = .ok (.iload_n 2, 1) := by decide +kernel
theorem dX12_welderOf_4 : decode cX12_welderOf 4 = .ok (.invokevirtual 77, 3) := by decide +kernel
theorem dX12_welderOf_7 : decode cX12_welderOf 7 = .ok (.ifCond .ne 7, 3) := by decide +kernel
theorem dX12_welderOf_10 : decode cX12_welderOf 10 = .ok (.iconst 1, 1) := by decide +kernel
theorem dX12_welderOf_11 : decode cX12_welderOf 11 = .ok (.goto 22, 3) := by decide +kernel
theorem dX12_welderOf_14 : decode cX12_welderOf 14 = .ok (.aload_n 0, 1) := by decide +kernel
theorem dX12_welderOf_15 : decode cX12_welderOf 15 = .ok (.iload_n 1, 1) := by decide +kernel
theorem dX12_welderOf_16 : decode cX12_welderOf 16 = .ok (.iload_n 2, 1) := by decide +kernel
theorem dX12_welderOf_17 : decode cX12_welderOf 17 = .ok (.invokevirtual 81, 3) := by decide +kernel
theorem dX12_welderOf_20 : decode cX12_welderOf 20 = .ok (.getfield 85, 3) := by decide +kernel
theorem dX12_welderOf_23 : decode cX12_welderOf 23 = .ok (.bipush 110, 2) := by decide +kernel
theorem dX12_welderOf_25 : decode cX12_welderOf 25 = .ok (.if_icmp .ne 7, 3) := by decide +kernel
theorem dX12_welderOf_28 : decode cX12_welderOf 28 = .ok (.iconst 2, 1) := by decide +kernel
theorem dX12_welderOf_29 : decode cX12_welderOf 29 = .ok (.goto 4, 3) := by decide +kernel
theorem dX12_welderOf_32 : decode cX12_welderOf 32 = .ok (.iconst 0, 1) := by decide +kernel
theorem dX12_welderOf_33 : decode cX12_welderOf 33 = .ok (.invokevirtual 59, 3) := by decide +kernel
theorem dX12_welderOf_36 : decode cX12_welderOf 36 = .ok (.ifCond .eq 7, 3) := by decide +kernel
theorem dX12_welderOf_39 : decode cX12_welderOf 39 = .ok (.iconst 0, 1) := by decide +kernel
theorem dX12_welderOf_40 : decode cX12_welderOf 40 = .ok (.goto 12, 3) := by decide +kernel
theorem dX12_welderOf_43 : decode cX12_welderOf 43 = .ok (.aload_n 0, 1) := by decide +kernel
theorem dX12_welderOf_44 : decode cX12_welderOf 44 = .ok (.iload_n 1, 1) := by decide +kernel
theorem dX12_welderOf_45 : decode cX12_welderOf 45 = .ok (.iload_n 2, 1) := by decide +kernel
theorem dX12_welderOf_46 : decode cX12_welderOf 46 = .ok (.invokevirtual 81, 3) := by decide +kernel
theorem dX12_welderOf_49 : decode cX12_welderOf 49 = .ok (.getfield 170, 3) := by decide +kernel
theorem dX12_welderOf_52 : decode cX12_welderOf 52 = .ok (.ireturn, 1) := by decide +kernel
theorem dX12_toLook_0 : decode cX12_toLook 0 = .ok (.aload_n 0, 1) := by decide +kernel
theorem dX12_toLook_1 : decode cX12_toLook 1 = .ok (.aload_n 0, 1) := by decide +kernel
theorem dX12_toLook_2 : decode cX12_toLook 2 = .ok (.iload_n 1, 1) := by decide +kernel
theorem dX12_toLook_3 : decode cX12_toLook 3 = .ok (.invokevirtual 39, 3) := by decide +kernel
theorem dX12_toLook_6 : decode cX12_toLook 6 = .ok (.ifCond .eq 7, 3) := by decide +kernel
theorem dX12_toLook_9 : decode cX12_toLook 9 = .ok (.iconst 0, 1) := by decide +kernel
theorem dX12_toLook_10 : decode cX12_toLook 10 = .ok (.goto 4, 3) := by decide +kernel
theorem dX12_toLook_13 : decode cX12_toLook 13 = .ok (.iconst 1, 1) := by decide +kernel
theorem dX12_toLook_14 : decode cX12_toLook 14 = .ok (.invokevirtual 59, 3) := by decide +kernel
theorem dX12_toLook_17 : decode cX12_toLook 17 = .ok (.ifCond .eq 7, 3) := by decide +kernel
theorem dX12_toLook_20 : decode cX12_toLook 20 = .ok (.iconst 0, 1) := by decide +kernel
theorem dX12_toLook_21 : decode cX12_toLook 21 = .ok (.goto 19, 3) := by decide +kernel
theorem dX12_toLook_24 : decode cX12_toLook 24 = .ok (.aload_n 0, 1) := by decide +kernel
theorem dX12_toLook_25 : decode cX12_toLook 25 = .ok (.getfield 10, 3) := by decide +kernel
theorem dX12_toLook_28 : decode cX12_toLook 28 = .ok (.iload_n 1, 1) := by decide +kernel
theorem dX12_toLook_29 : decode cX12_toLook 29 = .ok (.invokeinterface 43 2, 5) := by decide +kernel
theorem dX12_toLook_34 : decode cX12_toLook 34 = .ok (.checkcast 47, 3) := by decide +kernel
theorem dX12_toLook_37 : decode cX12_toLook 37 = .ok (.invokevirtual 195, 3) := by decide +kernel
theorem dX12_toLook_40 : decode cX12_toLook 40 = .ok (.ireturn, 1) := by decide +kernel
theorem dX12_failed_0 : decode cX12_failed 0 = .ok (.aload_n 0, 1) := by decide +kernel
theorem dX12_failed_1 : decode cX12_failed 1 = .ok (.aload_n 0, 1) := by decide +kernel
theorem dX12_failed_2 : decode cX12_failed 2 = .ok (.iload_n 1, 1) := by decide +kernel
theorem dX12_failed_3 : decode cX12_failed 3 = .ok (.invokevirtual 157, 3) := by decide +kernel
theorem dX12_failed_6 : decode cX12_failed 6 = .ok (.ifCond .eq 7, 3) := by decide +kernel
theorem dX12_failed_9 : decode cX12_failed 9 = .ok (.iconst 0, 1) := by decide +kernel
theorem dX12_failed_10 : decode cX12_failed 10 = .ok (.goto 4, 3) := by decide +kernel
theorem dX12_failed_13 : decode cX12_failed 13 = .ok (.iconst 1, 1) := by decide +kernel
theorem dX12_failed_14 : decode cX12_failed 14 = .ok (.invokevirtual 59, 3) := by decide +kernel
theorem dX12_failed_17 : decode cX12_failed 17 = .ok (.ifCond .eq 7, 3) := by decide +kernel
theorem dX12_failed_20 : decode cX12_failed 20 = .ok (.iconst 0, 1) := by decide +kernel
theorem dX12_failed_21 : decode cX12_failed 21 = .ok (.goto 19, 3) := by decide +kernel
theorem dX12_failed_24 : decode cX12_failed 24 = .ok (.aload_n 0, 1) := by decide +kernel
theorem dX12_failed_25 : decode cX12_failed 25 = .ok (.getfield 19, 3) := by decide +kernel
theorem dX12_failed_28 : decode cX12_failed 28 = .ok (.iload_n 1, 1) := by decide +kernel
theorem dX12_failed_29 : decode cX12_failed 29 = .ok (.invokeinterface 43 2, 5) := by decide +kernel
theorem dX12_failed_34 : decode cX12_failed 34 = .ok (.checkcast 154, 3) := by decide +kernel
theorem dX12_failed_37 : decode cX12_failed 37 = .ok (.getfield 183, 3) := by decide +kernel
theorem dX12_failed_40 : decode cX12_failed 40 = .ok (.ireturn, 1) := by decide +kernel
theorem dX12_pass_0 : decode cX12_pass 0 = .ok (.aload_n 0, 1) := by decide +kernel
theorem dX12_pass_1 : decode cX12_pass 1 = .ok (.iload_n 1, 1) := by decide +kernel
theorem dX12_pass_2 : decode cX12_pass 2 = .ok (.iconst 1, 1) := by decide +kernel
theorem dX12_pass_3 : decode cX12_pass 3 = .ok (.bipush 99, 2) := by decide +kernel
theorem dX12_pass_5 : decode cX12_pass 5 = .ok (.invokestatic 35, 3) := by decide +kernel
theorem dX12_pass_8 : decode cX12_pass 8 = .ok (.ifCond .ne 7, 3) := by decide +kernel
theorem dX12_pass_11 : decode cX12_pass 11 = .ok (.iconst 1, 1) := by decide +kernel
theorem dX12_pass_12 : decode cX12_pass 12 = .ok (.goto 20, 3) := by decide +kernel
theorem dX12_pass_15 : decode cX12_pass 15 = .ok (.aload_n 0, 1) := by decide +kernel
theorem dX12_pass_16 : decode cX12_pass 16 = .ok (.getfield 164, 3) := by decide +kernel
theorem dX12_pass_19 : decode cX12_pass 19 = .ok (.iload_n 1, 1) := by decide +kernel
theorem dX12_pass_20 : decode cX12_pass 20 = .ok (.iadd, 1) := by decide +kernel
theorem dX12_pass_21 : decode cX12_pass 21 = .ok (.sipush 999, 3) := by decide +kernel
theorem dX12_pass_24 : decode cX12_pass 24 = .ok (.if_icmp .le 7, 3) := by decide +kernel
theorem dX12_pass_27 : decode cX12_pass 27 = .ok (.iconst 2, 1) := by decide +kernel
theorem dX12_pass_28 : decode cX12_pass 28 = .ok (.goto 4, 3) := by decide +kernel
theorem dX12_pass_31 : decode cX12_pass 31 = .ok (.iconst 0, 1) := by decide +kernel
theorem dX12_pass_32 : decode cX12_pass 32 = .ok (.invokevirtual 59, 3) := by decide +kernel
theorem dX12_pass_35 : decode cX12_pass 35 = .ok (.ifCond .eq 5, 3) := by decide +kernel
theorem dX12_pass_38 : decode cX12_pass 38 = .ok (.iconst 0, 1) := by decide +kernel
theorem dX12_pass_39 : decode cX12_pass 39 = .ok (.ireturn, 1) := by decide +kernel
theorem dX12_pass_40 : decode cX12_pass 40 = .ok (.aload_n 0, 1) := by decide +kernel
theorem dX12_pass_41 : decode cX12_pass 41 = .ok (.dup, 1) := by decide +kernel
theorem dX12_pass_42 : decode cX12_pass 42 = .ok (.getfield 164, 3) := by decide +kernel
theorem dX12_pass_45 : decode cX12_pass 45 = .ok (.iload_n 1, 1) := by decide +kernel
theorem dX12_pass_46 : decode cX12_pass 46 = .ok (.iadd, 1) := by decide +kernel
theorem dX12_pass_47 : decode cX12_pass 47 = .ok (.putfield 164, 3) := by decide +kernel
theorem dX12_pass_50 : decode cX12_pass 50 = .ok (.aload_n 0, 1) := by decide +kernel
theorem dX12_pass_51 : decode cX12_pass 51 = .ok (.getfield 164, 3) := by decide +kernel
theorem dX12_pass_54 : decode cX12_pass 54 = .ok (.ireturn, 1) := by decide +kernel
theorem dX12_join_0 : decode cX12_join 0 = .ok (.iload_n 2, 1) := by decide +kernel
theorem dX12_join_1 : decode cX12_join 1 = .ok (.ifCond .eq 7, 3) := by decide +kernel
theorem dX12_join_4 : decode cX12_join 4 = .ok (.iconst 1, 1) := by decide +kernel
theorem dX12_join_5 : decode cX12_join 5 = .ok (.goto 4, 3) := by decide +kernel
theorem dX12_join_8 : decode cX12_join 8 = .ok (.iconst 0, 1) := by decide +kernel
theorem dX12_join_9 : decode cX12_join 9 = .ok (.istore 5, 2) := by decide +kernel
theorem dX12_join_11 : decode cX12_join 11 = .ok (.iload 4, 2) := by decide +kernel
theorem dX12_join_13 : decode cX12_join 13 = .ok (.ifCond .eq 7, 3) := by decide +kernel
theorem dX12_join_16 : decode cX12_join 16 = .ok (.iconst 1, 1) := by decide +kernel
theorem dX12_join_17 : decode cX12_join 17 = .ok (.goto 4, 3) := by decide +kernel
theorem dX12_join_20 : decode cX12_join 20 = .ok (.iconst 0, 1) := by decide +kernel
theorem dX12_join_21 : decode cX12_join 21 = .ok (.istore 6, 2) := by decide +kernel
theorem dX12_join_23 : decode cX12_join 23 = .ok (.aload_n 0, 1) := by decide +kernel
theorem dX12_join_24 : decode cX12_join 24 = .ok (.aload_n 0, 1) := by decide +kernel
theorem dX12_join_25 : decode cX12_join 25 = .ok (.iload_n 1, 1) := by decide +kernel
theorem dX12_join_26 : decode cX12_join 26 = .ok (.invokevirtual 39, 3) := by decide +kernel
theorem dX12_join_29 : decode cX12_join 29 = .ok (.ifCond .eq 11, 3) := by decide +kernel
theorem dX12_join_32 : decode cX12_join 32 = .ok (.aload_n 0, 1) := by decide +kernel
theorem dX12_join_33 : decode cX12_join 33 = .ok (.iload_n 3, 1) := by decide +kernel
theorem dX12_join_34 : decode cX12_join 34 = .ok (.invokevirtual 39, 3) := by decide +kernel
theorem dX12_join_37 : decode cX12_join 37 = .ok (.ifCond .ne 7, 3) := by decide +kernel
theorem dX12_join_40 : decode cX12_join 40 = .ok (.iconst 1, 1) := by decide +kernel
theorem dX12_join_41 : decode cX12_join 41 = .ok (.goto 13, 3) := by decide +kernel
theorem dX12_join_44 : decode cX12_join 44 = .ok (.iload_n 1, 1) := by decide +kernel
theorem dX12_join_45 : decode cX12_join 45 = .ok (.iload_n 3, 1) := by decide +kernel
theorem dX12_join_46 : decode cX12_join 46 = .ok (.if_icmp .ne 7, 3) := by decide +kernel
theorem dX12_join_49 : decode cX12_join 49 = .ok (.iconst 2, 1) := by decide +kernel
theorem dX12_join_50 : decode cX12_join 50 = .ok (.goto 4, 3) := by decide +kernel
theorem dX12_join_53 : decode cX12_join 53 = .ok (.iconst 0, 1) := by decide +kernel
theorem dX12_join_54 : decode cX12_join 54 = .ok (.invokevirtual 59, 3) := by decide +kernel
theorem dX12_join_57 : decode cX12_join 57 = .ok (.ifCond .eq 5, 3) := by decide +kernel
theorem dX12_join_60 : decode cX12_join 60 = .ok (.iconst 0, 1) := by decide +kernel
theorem dX12_join_61 : decode cX12_join 61 = .ok (.ireturn, 1) := by decide +kernel
theorem dX12_join_62 : decode cX12_join 62 = .ok (.aload_n 0, 1) := by decide +kernel
theorem dX12_join_63 : decode cX12_join 63 = .ok (.getfield 10, 3) := by decide +kernel
theorem dX12_join_66 : decode cX12_join 66 = .ok (.iload_n 1, 1) := by decide +kernel
theorem dX12_join_67 : decode cX12_join 67 = .ok (.invokeinterface 43 2, 5) := by decide +kernel
theorem dX12_join_72 : decode cX12_join 72 = .ok (.checkcast 47, 3) := by decide +kernel
theorem dX12_join_75 : decode cX12_join 75 = .ok (.astore 7, 2) := by decide +kernel
theorem dX12_join_77 : decode cX12_join 77 = .ok (.aload_n 0, 1) := by decide +kernel
theorem dX12_join_78 : decode cX12_join 78 = .ok (.getfield 10, 3) := by decide +kernel
theorem dX12_join_81 : decode cX12_join 81 = .ok (.iload_n 3, 1) := by decide +kernel
theorem dX12_join_82 : decode cX12_join 82 = .ok (.invokeinterface 43 2, 5) := by decide +kernel
theorem dX12_join_87 : decode cX12_join 87 = .ok (.checkcast 47, 3) := by decide +kernel
theorem dX12_join_90 : decode cX12_join 90 = .ok (.astore 8, 2) := by decide +kernel
theorem dX12_join_92 : decode cX12_join 92 = .ok (.aload 7, 2) := by decide +kernel
theorem dX12_join_94 : decode cX12_join 94 = .ok (.getfield 198, 3) := by decide +kernel
theorem dX12_join_97 : decode cX12_join 97 = .ok (.iload 5, 2) := by decide +kernel
theorem dX12_join_99 : decode cX12_join 99 = .ok (.iaload, 1) := by decide +kernel
theorem dX12_join_100 : decode cX12_join 100 = .ok (.iconst 2, 1) := by decide +kernel
theorem dX12_join_101 : decode cX12_join 101 = .ok (.iload_n 3, 1) := by decide +kernel
theorem dX12_join_102 : decode cX12_join 102 = .ok (.imul, 1) := by decide +kernel
theorem dX12_join_103 : decode cX12_join 103 = .ok (.iload 6, 2) := by decide +kernel
theorem dX12_join_105 : decode cX12_join 105 = .ok (.iadd, 1) := by decide +kernel
theorem dX12_join_106 : decode cX12_join 106 = .ok (.if_icmp .ne 7, 3) := by decide +kernel
theorem dX12_join_109 : decode cX12_join 109 = .ok (.iconst 1, 1) := by decide +kernel
theorem dX12_join_110 : decode cX12_join 110 = .ok (.goto 4, 3) := by decide +kernel
theorem dX12_join_113 : decode cX12_join 113 = .ok (.iconst 0, 1) := by decide +kernel
theorem dX12_join_114 : decode cX12_join 114 = .ok (.istore 9, 2) := by decide +kernel
theorem dX12_join_116 : decode cX12_join 116 = .ok (.aload 7, 2) := by decide +kernel
theorem dX12_join_118 : decode cX12_join 118 = .ok (.getfield 198, 3) := by decide +kernel
theorem dX12_join_121 : decode cX12_join 121 = .ok (.iload 5, 2) := by decide +kernel
theorem dX12_join_123 : decode cX12_join 123 = .ok (.iaload, 1) := by decide +kernel
theorem dX12_join_124 : decode cX12_join 124 = .ok (.iconst (-1), 1) := by decide +kernel
theorem dX12_join_125 : decode cX12_join 125 = .ok (.if_icmp .ne 37, 3) := by decide +kernel
theorem dX12_join_128 : decode cX12_join 128 = .ok (.aload 8, 2) := by decide +kernel
theorem dX12_join_130 : decode cX12_join 130 = .ok (.getfield 198, 3) := by decide +kernel
theorem dX12_join_133 : decode cX12_join 133 = .ok (.iload 6, 2) := by decide +kernel
theorem dX12_join_135 : decode cX12_join 135 = .ok (.iaload, 1) := by decide +kernel
theorem dX12_join_136 : decode cX12_join 136 = .ok (.iconst (-1), 1) := by decide +kernel
theorem dX12_join_137 : decode cX12_join 137 = .ok (.if_icmp .ne 25, 3) := by decide +kernel
theorem dX12_join_140 : decode cX12_join 140 = .ok (.aload 7, 2) := by decide +kernel
theorem dX12_join_142 : decode cX12_join 142 = .ok (.getfield 201, 3) := by decide +kernel
theorem dX12_join_145 : decode cX12_join 145 = .ok (.iload 5, 2) := by decide +kernel
theorem dX12_join_147 : decode cX12_join 147 = .ok (.baload, 1) := by decide +kernel
theorem dX12_join_148 : decode cX12_join 148 = .ok (.ifCond .ne 14, 3) := by decide +kernel
theorem dX12_join_151 : decode cX12_join 151 = .ok (.aload 8, 2) := by decide +kernel
theorem dX12_join_153 : decode cX12_join 153 = .ok (.getfield 201, 3) := by decide +kernel
theorem dX12_join_156 : decode cX12_join 156 = .ok (.iload 6, 2) := by decide +kernel
theorem dX12_join_158 : decode cX12_join 158 = .ok (.baload, 1) := by decide +kernel
theorem dX12_join_159 : decode cX12_join 159 = .ok (.ifCond .eq 7, 3) := by decide +kernel
theorem dX12_join_162 : decode cX12_join 162 = .ok (.iconst 1, 1) := by decide +kernel
theorem dX12_join_163 : decode cX12_join 163 = .ok (.goto 4, 3) := by decide +kernel
theorem dX12_join_166 : decode cX12_join 166 = .ok (.iconst 0, 1) := by decide +kernel
theorem dX12_join_167 : decode cX12_join 167 = .ok (.istore 10, 2) := by decide +kernel
theorem dX12_join_169 : decode cX12_join 169 = .ok (.aload_n 0, 1) := by decide +kernel
theorem dX12_join_170 : decode cX12_join 170 = .ok (.iload 9, 2) := by decide +kernel
theorem dX12_join_172 : decode cX12_join 172 = .ok (.ifCond .ne 12, 3) := by decide +kernel
theorem dX12_join_175 : decode cX12_join 175 = .ok (.iload 10, 2) := by decide +kernel
theorem dX12_join_177 : decode cX12_join 177 = .ok (.ifCond .eq 7, 3) := by decide +kernel
theorem dX12_join_180 : decode cX12_join 180 = .ok (.iconst 3, 1) := by decide +kernel
theorem dX12_join_181 : decode cX12_join 181 = .ok (.goto 4, 3) := by decide +kernel
theorem dX12_join_184 : decode cX12_join 184 = .ok (.iconst 0, 1) := by decide +kernel
theorem dX12_join_185 : decode cX12_join 185 = .ok (.invokevirtual 59, 3) := by decide +kernel
theorem dX12_join_188 : decode cX12_join 188 = .ok (.ifCond .eq 5, 3) := by decide +kernel
theorem dX12_join_191 : decode cX12_join 191 = .ok (.iconst 0, 1) := by decide +kernel
theorem dX12_join_192 : decode cX12_join 192 = .ok (.ireturn, 1) := by decide +kernel
theorem dX12_join_193 : decode cX12_join 193 = .ok (.aload 7, 2) := by decide +kernel
theorem dX12_join_195 : decode cX12_join 195 = .ok (.getfield 198, 3) := by decide +kernel
theorem dX12_join_198 : decode cX12_join 198 = .ok (.iload 5, 2) := by decide +kernel
theorem dX12_join_200 : decode cX12_join 200 = .ok (.iload 9, 2) := by decide +kernel
theorem dX12_join_202 : decode cX12_join 202 = .ok (.ifCond .eq 7, 3) := by decide +kernel
theorem dX12_join_205 : decode cX12_join 205 = .ok (.iconst (-1), 1) := by decide +kernel
theorem dX12_join_206 : decode cX12_join 206 = .ok (.goto 9, 3) := by decide +kernel
theorem dX12_join_209 : decode cX12_join 209 = .ok (.iconst 2, 1) := by decide +kernel
theorem dX12_join_210 : decode cX12_join 210 = .ok (.iload_n 3, 1) := by decide +kernel
theorem dX12_join_211 : decode cX12_join 211 = .ok (.imul, 1) := by decide +kernel
theorem dX12_join_212 : decode cX12_join 212 = .ok (.iload 6, 2) := by decide +kernel
theorem dX12_join_214 : decode cX12_join 214 = .ok (.iadd, 1) := by decide +kernel
theorem dX12_join_215 : decode cX12_join 215 = .ok (.iastore, 1) := by decide +kernel
theorem dX12_join_216 : decode cX12_join 216 = .ok (.aload 8, 2) := by decide +kernel
theorem dX12_join_218 : decode cX12_join 218 = .ok (.getfield 198, 3) := by decide +kernel
theorem dX12_join_221 : decode cX12_join 221 = .ok (.iload 6, 2) := by decide +kernel
theorem dX12_join_223 : decode cX12_join 223 = .ok (.iload 9, 2) := by decide +kernel
theorem dX12_join_225 : decode cX12_join 225 = .ok (.ifCond .eq 7, 3) := by decide +kernel
theorem dX12_join_228 : decode cX12_join 228 = .ok (.iconst (-1), 1) := by decide +kernel
theorem dX12_join_229 : decode cX12_join 229 = .ok (.goto 9, 3) := by decide +kernel
theorem dX12_join_232 : decode cX12_join 232 = .ok (.iconst 2, 1) := by decide +kernel
theorem dX12_join_233 : decode cX12_join 233 = .ok (.iload_n 1, 1) := by decide +kernel
theorem dX12_join_234 : decode cX12_join 234 = .ok (.imul, 1) := by decide +kernel
theorem dX12_join_235 : decode cX12_join 235 = .ok (.iload 5, 2) := by decide +kernel
theorem dX12_join_237 : decode cX12_join 237 = .ok (.iadd, 1) := by decide +kernel
theorem dX12_join_238 : decode cX12_join 238 = .ok (.iastore, 1) := by decide +kernel
theorem dX12_join_239 : decode cX12_join 239 = .ok (.aload 7, 2) := by decide +kernel
theorem dX12_join_241 : decode cX12_join 241 = .ok (.iconst 0, 1) := by decide +kernel
theorem dX12_join_242 : decode cX12_join 242 = .ok (.putfield 73, 3) := by decide +kernel
theorem dX12_join_245 : decode cX12_join 245 = .ok (.aload 8, 2) := by decide +kernel
theorem dX12_join_247 : decode cX12_join 247 = .ok (.iconst 0, 1) := by decide +kernel
theorem dX12_join_248 : decode cX12_join 248 = .ok (.putfield 73, 3) := by decide +kernel
theorem dX12_join_251 : decode cX12_join 251 = .ok (.iload 9, 2) := by decide +kernel
theorem dX12_join_253 : decode cX12_join 253 = .ok (.ifCond .ne 7, 3) := by decide +kernel
theorem dX12_join_256 : decode cX12_join 256 = .ok (.iconst 1, 1) := by decide +kernel
theorem dX12_join_257 : decode cX12_join 257 = .ok (.goto 4, 3) := by decide +kernel
theorem dX12_join_260 : decode cX12_join 260 = .ok (.iconst 0, 1) := by decide +kernel
theorem dX12_join_261 : decode cX12_join 261 = .ok (.ireturn, 1) := by decide +kernel
theorem dX12_blind_0 : decode cX12_blind 0 = .ok (.iload_n 2, 1) := by decide +kernel
theorem dX12_blind_1 : decode cX12_blind 1 = .ok (.ifCond .eq 7, 3) := by decide +kernel
theorem dX12_blind_4 : decode cX12_blind 4 = .ok (.iconst 1, 1) := by decide +kernel
theorem dX12_blind_5 : decode cX12_blind 5 = .ok (.goto 4, 3) := by decide +kernel
theorem dX12_blind_8 : decode cX12_blind 8 = .ok (.iconst 0, 1) := by decide +kernel
theorem dX12_blind_9 : decode cX12_blind 9 = .ok (.istore 4, 2) := by decide +kernel
theorem dX12_blind_11 : decode cX12_blind 11 = .ok (.aload_n 0, 1) := by decide +kernel
theorem dX12_blind_12 : decode cX12_blind 12 = .ok (.aload_n 0, 1) := by decide +kernel
theorem dX12_blind_13 : decode cX12_blind 13 = .ok (.iload_n 1, 1) := by decide +kernel
theorem dX12_blind_14 : decode cX12_blind 14 = .ok (.invokevirtual 39, 3) := by decide +kernel
theorem dX12_blind_17 : decode cX12_blind 17 = .ok (.ifCond .ne 7, 3) := by decide +kernel
theorem dX12_blind_20 : decode cX12_blind 20 = .ok (.iconst 1, 1) := by decide +kernel
theorem dX12_blind_21 : decode cX12_blind 21 = .ok (.goto 35, 3) := by decide +kernel
theorem dX12_blind_24 : decode cX12_blind 24 = .ok (.iload_n 3, 1) := by decide +kernel
theorem dX12_blind_25 : decode cX12_blind 25 = .ok (.ifCond .eq 30, 3) := by decide +kernel
theorem dX12_blind_28 : decode cX12_blind 28 = .ok (.aload_n 0, 1) := by decide +kernel
theorem dX12_blind_29 : decode cX12_blind 29 = .ok (.getfield 10, 3) := by decide +kernel
theorem dX12_blind_32 : decode cX12_blind 32 = .ok (.iload_n 1, 1) := by decide +kernel
theorem dX12_blind_33 : decode cX12_blind 33 = .ok (.invokeinterface 43 2, 5) := by decide +kernel
theorem dX12_blind_38 : decode cX12_blind 38 = .ok (.checkcast 47, 3) := by decide +kernel
theorem dX12_blind_41 : decode cX12_blind 41 = .ok (.getfield 198, 3) := by decide +kernel
theorem dX12_blind_44 : decode cX12_blind 44 = .ok (.iload 4, 2) := by decide +kernel
theorem dX12_blind_46 : decode cX12_blind 46 = .ok (.iaload, 1) := by decide +kernel
theorem dX12_blind_47 : decode cX12_blind 47 = .ok (.iconst (-1), 1) := by decide +kernel
theorem dX12_blind_48 : decode cX12_blind 48 = .ok (.if_icmp .eq 7, 3) := by decide +kernel
theorem dX12_blind_51 : decode cX12_blind 51 = .ok (.iconst 2, 1) := by decide +kernel
theorem dX12_blind_52 : decode cX12_blind 52 = .ok (.goto 4, 3) := by decide +kernel
theorem dX12_blind_55 : decode cX12_blind 55 = .ok (.iconst 0, 1) := by decide +kernel
theorem dX12_blind_56 : decode cX12_blind 56 = .ok (.invokevirtual 59, 3) := by decide +kernel
theorem dX12_blind_59 : decode cX12_blind 59 = .ok (.ifCond .eq 5, 3) := by decide +kernel
theorem dX12_blind_62 : decode cX12_blind 62 = .ok (.iconst 0, 1) := by decide +kernel
theorem dX12_blind_63 : decode cX12_blind 63 = .ok (.ireturn, 1) := by decide +kernel
theorem dX12_blind_64 : decode cX12_blind 64 = .ok (.aload_n 0, 1) := by decide +kernel
theorem dX12_blind_65 : decode cX12_blind 65 = .ok (.getfield 10, 3) := by decide +kernel
theorem dX12_blind_68 : decode cX12_blind 68 = .ok (.iload_n 1, 1) := by decide +kernel
theorem dX12_blind_69 : decode cX12_blind 69 = .ok (.invokeinterface 43 2, 5) := by decide +kernel
theorem dX12_blind_74 : decode cX12_blind 74 = .ok (.checkcast 47, 3) := by decide +kernel
theorem dX12_blind_77 : decode cX12_blind 77 = .ok (.getfield 201, 3) := by decide +kernel
theorem dX12_blind_80 : decode cX12_blind 80 = .ok (.iload 4, 2) := by decide +kernel
theorem dX12_blind_82 : decode cX12_blind 82 = .ok (.baload, 1) := by decide +kernel
theorem dX12_blind_83 : decode cX12_blind 83 = .ok (.istore 5, 2) := by decide +kernel
theorem dX12_blind_85 : decode cX12_blind 85 = .ok (.aload_n 0, 1) := by decide +kernel
theorem dX12_blind_86 : decode cX12_blind 86 = .ok (.getfield 10, 3) := by decide +kernel
theorem dX12_blind_89 : decode cX12_blind 89 = .ok (.iload_n 1, 1) := by decide +kernel
theorem dX12_blind_90 : decode cX12_blind 90 = .ok (.invokeinterface 43 2, 5) := by decide +kernel
theorem dX12_blind_95 : decode cX12_blind 95 = .ok (.checkcast 47, 3) := by decide +kernel
theorem dX12_blind_98 : decode cX12_blind 98 = .ok (.getfield 201, 3) := by decide +kernel
theorem dX12_blind_101 : decode cX12_blind 101 = .ok (.iload 4, 2) := by decide +kernel
theorem dX12_blind_103 : decode cX12_blind 103 = .ok (.iload_n 3, 1) := by decide +kernel
theorem dX12_blind_104 : decode cX12_blind 104 = .ok (.bastore, 1) := by decide +kernel
theorem dX12_blind_105 : decode cX12_blind 105 = .ok (.iload 5, 2) := by decide +kernel
theorem dX12_blind_107 : decode cX12_blind 107 = .ok (.ireturn, 1) := by decide +kernel
theorem dX12_addCircuit_0 : decode cX12_addCircuit 0 = .ok (.aload_n 0, 1) := by decide +kernel
theorem dX12_addCircuit_1 : decode cX12_addCircuit 1 = .ok (.iload_n 1, 1) := by decide +kernel
theorem dX12_addCircuit_2 : decode cX12_addCircuit 2 = .ok (.iconst 1, 1) := by decide +kernel
theorem dX12_addCircuit_3 : decode cX12_addCircuit 3 = .ok (.bipush 15, 2) := by decide +kernel
theorem dX12_addCircuit_5 : decode cX12_addCircuit 5 = .ok (.invokestatic 35, 3) := by decide +kernel
theorem dX12_addCircuit_8 : decode cX12_addCircuit 8 = .ok (.ifCond .eq 18, 3) := by decide +kernel
theorem dX12_addCircuit_11 : decode cX12_addCircuit 11 = .ok (.iload_n 1, 1) := by decide +kernel
theorem dX12_addCircuit_12 : decode cX12_addCircuit 12 = .ok (.iconst 1, 1) := by decide +kernel
theorem dX12_addCircuit_13 : decode cX12_addCircuit 13 = .ok (.aload_n 0, 1) := by decide +kernel
theorem dX12_addCircuit_14 : decode cX12_addCircuit 14 = .ok (.getfield 10, 3) := by decide +kernel
theorem dX12_addCircuit_17 : decode cX12_addCircuit 17 = .ok (.invokeinterface 29 1, 5) := by decide +kernel
theorem dX12_addCircuit_22 : decode cX12_addCircuit 22 = .ok (.ishl, 1) := by decide +kernel
theorem dX12_addCircuit_23 : decode cX12_addCircuit 23 = .ok (.if_icmp .lt 7, 3) := by decide +kernel
theorem dX12_addCircuit_26 : decode cX12_addCircuit 26 = .ok (.iconst 1, 1) := by decide +kernel
theorem dX12_addCircuit_27 : decode cX12_addCircuit 27 = .ok (.goto 22, 3) := by decide +kernel
theorem dX12_addCircuit_30 : decode cX12_addCircuit 30 = .ok (.aload_n 0, 1) := by decide +kernel
theorem dX12_addCircuit_31 : decode cX12_addCircuit 31 = .ok (.getfield 22, 3) := by decide +kernel
theorem dX12_addCircuit_34 : decode cX12_addCircuit 34 = .ok (.invokeinterface 29 1, 5) := by decide +kernel
theorem dX12_addCircuit_39 : decode cX12_addCircuit 39 = .ok (.bipush 6, 2) := by decide +kernel
theorem dX12_addCircuit_41 : decode cX12_addCircuit 41 = .ok (.if_icmp .ne 7, 3) := by decide +kernel
theorem dX12_addCircuit_44 : decode cX12_addCircuit 44 = .ok (.iconst 2, 1) := by decide +kernel
theorem dX12_addCircuit_45 : decode cX12_addCircuit 45 = .ok (.goto 4, 3) := by decide +kernel
theorem dX12_addCircuit_48 : decode cX12_addCircuit 48 = .ok (.iconst 0, 1) := by decide +kernel
theorem dX12_addCircuit_49 : decode cX12_addCircuit 49 = .ok (.invokevirtual 59, 3) := by decide +kernel
theorem dX12_addCircuit_52 : decode cX12_addCircuit 52 = .ok (.ifCond .eq 5, 3) := by decide +kernel
theorem dX12_addCircuit_55 : decode cX12_addCircuit 55 = .ok (.iconst 0, 1) := by decide +kernel
theorem dX12_addCircuit_56 : decode cX12_addCircuit 56 = .ok (.ireturn, 1) := by decide +kernel
theorem dX12_addCircuit_57 : decode cX12_addCircuit 57 = .ok (.aload_n 0, 1) := by decide +kernel
theorem dX12_addCircuit_58 : decode cX12_addCircuit 58 = .ok (.getfield 22, 3) := by decide +kernel
theorem dX12_addCircuit_61 : decode cX12_addCircuit 61 = .ok (.iload_n 1, 1) := by decide +kernel
theorem dX12_addCircuit_62 : decode cX12_addCircuit 62 = .ok (.invokestatic 205, 3) := by decide +kernel
theorem dX12_addCircuit_65 : decode cX12_addCircuit 65 = .ok (.invokeinterface 65 2, 5) := by decide +kernel
theorem dX12_addCircuit_70 : decode cX12_addCircuit 70 = .ok (.pop, 1) := by decide +kernel
theorem dX12_addCircuit_71 : decode cX12_addCircuit 71 = .ok (.aload_n 0, 1) := by decide +kernel
theorem dX12_addCircuit_72 : decode cX12_addCircuit 72 = .ok (.getfield 22, 3) := by decide +kernel
theorem dX12_addCircuit_75 : decode cX12_addCircuit 75 = .ok (.invokeinterface 29 1, 5) := by decide +kernel
theorem dX12_addCircuit_80 : decode cX12_addCircuit 80 = .ok (.iconst 1, 1) := by decide +kernel
theorem dX12_addCircuit_81 : decode cX12_addCircuit 81 = .ok (.isub, 1) := by decide +kernel
theorem dX12_addCircuit_82 : decode cX12_addCircuit 82 = .ok (.ireturn, 1) := by decide +kernel
theorem dX12_isOf_0 : decode cX12_isOf 0 = .ok (.aload_n 0, 1) := by decide +kernel
theorem dX12_isOf_1 : decode cX12_isOf 1 = .ok (.getfield 22, 3) := by decide +kernel
theorem dX12_isOf_4 : decode cX12_isOf 4 = .ok (.iload_n 1, 1) := by decide +kernel
theorem dX12_isOf_5 : decode cX12_isOf 5 = .ok (.invokeinterface 43 2, 5) := by decide +kernel
theorem dX12_isOf_10 : decode cX12_isOf 10 = .ok (.checkcast 206, 3) := by decide +kernel
theorem dX12_isOf_13 : decode cX12_isOf 13 = .ok (.invokevirtual 211, 3) := by decide +kernel
theorem dX12_isOf_16 : decode cX12_isOf 16 = .ok (.iload_n 2, 1) := by decide +kernel
theorem dX12_isOf_17 : decode cX12_isOf 17 = .ok (.ishr, 1) := by decide +kernel
theorem dX12_isOf_18 : decode cX12_isOf 18 = .ok (.iconst 1, 1) := by decide +kernel
theorem dX12_isOf_19 : decode cX12_isOf 19 = .ok (.iand, 1) := by decide +kernel
theorem dX12_isOf_20 : decode cX12_isOf 20 = .ok (.iconst 1, 1) := by decide +kernel
theorem dX12_isOf_21 : decode cX12_isOf 21 = .ok (.if_icmp .ne 7, 3) := by decide +kernel
theorem dX12_isOf_24 : decode cX12_isOf 24 = .ok (.iconst 1, 1) := by decide +kernel
theorem dX12_isOf_25 : decode cX12_isOf 25 = .ok (.goto 4, 3) := by decide +kernel
theorem dX12_isOf_28 : decode cX12_isOf 28 = .ok (.iconst 0, 1) := by decide +kernel
theorem dX12_isOf_29 : decode cX12_isOf 29 = .ok (.ireturn, 1) := by decide +kernel
theorem dX12_openOf_0 : decode cX12_openOf 0 = .ok (.iconst 0, 1) := by decide +kernel
theorem dX12_openOf_1 : decode cX12_openOf 1 = .ok (.istore_n 2, 1) := by decide +kernel
theorem dX12_openOf_2 : decode cX12_openOf 2 = .ok (.iconst 0, 1) := by decide +kernel
theorem dX12_openOf_3 : decode cX12_openOf 3 = .ok (.istore_n 3, 1) := by decide +kernel
theorem dX12_openOf_4 : decode cX12_openOf 4 = .ok (.iload_n 3, 1) := by decide +kernel
theorem dX12_openOf_5 : decode cX12_openOf 5 = .ok (.aload_n 0, 1) := by decide +kernel
theorem dX12_openOf_6 : decode cX12_openOf 6 = .ok (.getfield 10, 3) := by decide +kernel
theorem dX12_openOf_9 : decode cX12_openOf 9 = .ok (.invokeinterface 29 1, 5) := by decide +kernel
theorem dX12_openOf_14 : decode cX12_openOf 14 = .ok (.if_icmp .ge 109, 3) := by decide +kernel
theorem dX12_openOf_17 : decode cX12_openOf 17 = .ok (.iconst 0, 1) := by decide +kernel
theorem dX12_openOf_18 : decode cX12_openOf 18 = .ok (.istore 4, 2) := by decide +kernel
theorem dX12_openOf_20 : decode cX12_openOf 20 = .ok (.iload 4, 2) := by decide +kernel
theorem dX12_openOf_22 : decode cX12_openOf 22 = .ok (.iconst 2, 1) := by decide +kernel
theorem dX12_openOf_23 : decode cX12_openOf 23 = .ok (.if_icmp .ge 94, 3) := by decide +kernel
theorem dX12_openOf_26 : decode cX12_openOf 26 = .ok (.aload_n 0, 1) := by decide +kernel
theorem dX12_openOf_27 : decode cX12_openOf 27 = .ok (.getfield 10, 3) := by decide +kernel
theorem dX12_openOf_30 : decode cX12_openOf 30 = .ok (.iload_n 3, 1) := by decide +kernel
theorem dX12_openOf_31 : decode cX12_openOf 31 = .ok (.invokeinterface 43 2, 5) := by decide +kernel
theorem dX12_openOf_36 : decode cX12_openOf 36 = .ok (.checkcast 47, 3) := by decide +kernel
theorem dX12_openOf_39 : decode cX12_openOf 39 = .ok (.astore 5, 2) := by decide +kernel
theorem dX12_openOf_41 : decode cX12_openOf 41 = .ok (.aload 5, 2) := by decide +kernel
theorem dX12_openOf_43 : decode cX12_openOf 43 = .ok (.getfield 201, 3) := by decide +kernel
theorem dX12_openOf_46 : decode cX12_openOf 46 = .ok (.iload 4, 2) := by decide +kernel
theorem dX12_openOf_48 : decode cX12_openOf 48 = .ok (.baload, 1) := by decide +kernel
theorem dX12_openOf_49 : decode cX12_openOf 49 = .ok (.ifCond .ne 33, 3) := by decide +kernel
theorem dX12_openOf_52 : decode cX12_openOf 52 = .ok (.aload 5, 2) := by decide +kernel
theorem dX12_openOf_54 : decode cX12_openOf 54 = .ok (.getfield 198, 3) := by decide +kernel
theorem dX12_openOf_57 : decode cX12_openOf 57 = .ok (.iload 4, 2) := by decide +kernel
theorem dX12_openOf_59 : decode cX12_openOf 59 = .ok (.iaload, 1) := by decide +kernel
theorem dX12_openOf_60 : decode cX12_openOf 60 = .ok (.iconst (-1), 1) := by decide +kernel
theorem dX12_openOf_61 : decode cX12_openOf 61 = .ok (.if_icmp .eq 25, 3) := by decide +kernel
theorem dX12_openOf_64 : decode cX12_openOf 64 = .ok (.aload_n 0, 1) := by decide +kernel
theorem dX12_openOf_65 : decode cX12_openOf 65 = .ok (.iload_n 1, 1) := by decide +kernel
theorem dX12_openOf_66 : decode cX12_openOf 66 = .ok (.aload 5, 2) := by decide +kernel
theorem dX12_openOf_68 : decode cX12_openOf 68 = .ok (.getfield 198, 3) := by decide +kernel
theorem dX12_openOf_71 : decode cX12_openOf 71 = .ok (.iload 4, 2) := by decide +kernel
theorem dX12_openOf_73 : decode cX12_openOf 73 = .ok (.iaload, 1) := by decide +kernel
theorem dX12_openOf_74 : decode cX12_openOf 74 = .ok (.iconst 2, 1) := by decide +kernel
theorem dX12_openOf_75 : decode cX12_openOf 75 = .ok (.idiv, 1) := by decide +kernel
theorem dX12_openOf_76 : decode cX12_openOf 76 = .ok (.invokevirtual 214, 3) := by decide +kernel
theorem dX12_openOf_79 : decode cX12_openOf 79 = .ok (.ifCond .eq 7, 3) := by decide +kernel
theorem dX12_openOf_82 : decode cX12_openOf 82 = .ok (.iconst 1, 1) := by decide +kernel
theorem dX12_openOf_83 : decode cX12_openOf 83 = .ok (.goto 4, 3) := by decide +kernel
theorem dX12_openOf_86 : decode cX12_openOf 86 = .ok (.iconst 0, 1) := by decide +kernel
theorem dX12_openOf_87 : decode cX12_openOf 87 = .ok (.istore 6, 2) := by decide +kernel
theorem dX12_openOf_89 : decode cX12_openOf 89 = .ok (.iload_n 2, 1) := by decide +kernel
theorem dX12_openOf_90 : decode cX12_openOf 90 = .ok (.aload_n 0, 1) := by decide +kernel
theorem dX12_openOf_91 : decode cX12_openOf 91 = .ok (.iload_n 1, 1) := by decide +kernel
theorem dX12_openOf_92 : decode cX12_openOf 92 = .ok (.iload_n 3, 1) := by decide +kernel
theorem dX12_openOf_93 : decode cX12_openOf 93 = .ok (.invokevirtual 214, 3) := by decide +kernel
theorem dX12_openOf_96 : decode cX12_openOf 96 = .ok (.ifCond .eq 12, 3) := by decide +kernel
theorem dX12_openOf_99 : decode cX12_openOf 99 = .ok (.iload 6, 2) := by decide +kernel
theorem dX12_openOf_101 : decode cX12_openOf 101 = .ok (.ifCond .ne 7, 3) := by decide +kernel
theorem dX12_openOf_104 : decode cX12_openOf 104 = .ok (.iconst 1, 1) := by decide +kernel
theorem dX12_openOf_105 : decode cX12_openOf 105 = .ok (.goto 4, 3) := by decide +kernel
theorem dX12_openOf_108 : decode cX12_openOf 108 = .ok (.iconst 0, 1) := by decide +kernel
theorem dX12_openOf_109 : decode cX12_openOf 109 = .ok (.iadd, 1) := by decide +kernel
theorem dX12_openOf_110 : decode cX12_openOf 110 = .ok (.istore_n 2, 1) := by decide +kernel
theorem dX12_openOf_111 : decode cX12_openOf 111 = .ok (.iinc 4 1, 3) := by decide +kernel
theorem dX12_openOf_114 : decode cX12_openOf 114 = .ok (.goto (-94), 3) := by decide +kernel
theorem dX12_openOf_117 : decode cX12_openOf 117 = .ok (.iinc 3 1, 3) := by decide +kernel
theorem dX12_openOf_120 : decode cX12_openOf 120 = .ok (.goto (-116), 3) := by decide +kernel
theorem dX12_openOf_123 : decode cX12_openOf 123 = .ok (.iload_n 2, 1) := by decide +kernel
theorem dX12_openOf_124 : decode cX12_openOf 124 = .ok (.ireturn, 1) := by decide +kernel
theorem dX12_open_0 : decode cX12_open 0 = .ok (.aload_n 0, 1) := by decide +kernel
theorem dX12_open_1 : decode cX12_open 1 = .ok (.aload_n 0, 1) := by decide +kernel
theorem dX12_open_2 : decode cX12_open 2 = .ok (.iload_n 1, 1) := by decide +kernel
theorem dX12_open_3 : decode cX12_open 3 = .ok (.invokevirtual 217, 3) := by decide +kernel
theorem dX12_open_6 : decode cX12_open 6 = .ok (.ifCond .eq 7, 3) := by decide +kernel
theorem dX12_open_9 : decode cX12_open 9 = .ok (.iconst 0, 1) := by decide +kernel
theorem dX12_open_10 : decode cX12_open 10 = .ok (.goto 4, 3) := by decide +kernel
theorem dX12_open_13 : decode cX12_open 13 = .ok (.iconst 1, 1) := by decide +kernel
theorem dX12_open_14 : decode cX12_open 14 = .ok (.invokevirtual 59, 3) := by decide +kernel
theorem dX12_open_17 : decode cX12_open 17 = .ok (.ifCond .eq 7, 3) := by decide +kernel
theorem dX12_open_20 : decode cX12_open 20 = .ok (.iconst 0, 1) := by decide +kernel
theorem dX12_open_21 : decode cX12_open 21 = .ok (.goto 8, 3) := by decide +kernel
theorem dX12_open_24 : decode cX12_open 24 = .ok (.aload_n 0, 1) := by decide +kernel
theorem dX12_open_25 : decode cX12_open 25 = .ok (.iload_n 1, 1) := by decide +kernel
theorem dX12_open_26 : decode cX12_open 26 = .ok (.invokevirtual 220, 3) := by decide +kernel
theorem dX12_open_29 : decode cX12_open 29 = .ok (.ireturn, 1) := by decide +kernel
theorem dX12_can_0 : decode cX12_can 0 = .ok (.aload_n 0, 1) := by decide +kernel
theorem dX12_can_1 : decode cX12_can 1 = .ok (.iload_n 1, 1) := by decide +kernel
theorem dX12_can_2 : decode cX12_can 2 = .ok (.invokevirtual 220, 3) := by decide +kernel
theorem dX12_can_5 : decode cX12_can 5 = .ok (.ifCond .ne 7, 3) := by decide +kernel
theorem dX12_can_8 : decode cX12_can 8 = .ok (.iconst 1, 1) := by decide +kernel
theorem dX12_can_9 : decode cX12_can 9 = .ok (.goto 4, 3) := by decide +kernel
theorem dX12_can_12 : decode cX12_can 12 = .ok (.iconst 0, 1) := by decide +kernel
theorem dX12_can_13 : decode cX12_can 13 = .ok (.istore_n 2, 1) := by decide +kernel
theorem dX12_can_14 : decode cX12_can 14 = .ok (.iconst 0, 1) := by decide +kernel
theorem dX12_can_15 : decode cX12_can 15 = .ok (.istore_n 3, 1) := by decide +kernel
theorem dX12_can_16 : decode cX12_can 16 = .ok (.iload_n 3, 1) := by decide +kernel
theorem dX12_can_17 : decode cX12_can 17 = .ok (.aload_n 0, 1) := by decide +kernel
theorem dX12_can_18 : decode cX12_can 18 = .ok (.getfield 10, 3) := by decide +kernel
theorem dX12_can_21 : decode cX12_can 21 = .ok (.invokeinterface 29 1, 5) := by decide +kernel
theorem dX12_can_26 : decode cX12_can 26 = .ok (.if_icmp .ge 66, 3) := by decide +kernel
theorem dX12_can_29 : decode cX12_can 29 = .ok (.iload_n 2, 1) := by decide +kernel
theorem dX12_can_30 : decode cX12_can 30 = .ok (.aload_n 0, 1) := by decide +kernel
theorem dX12_can_31 : decode cX12_can 31 = .ok (.iload_n 1, 1) := by decide +kernel
theorem dX12_can_32 : decode cX12_can 32 = .ok (.iload_n 3, 1) := by decide +kernel
theorem dX12_can_33 : decode cX12_can 33 = .ok (.invokevirtual 214, 3) := by decide +kernel
theorem dX12_can_36 : decode cX12_can 36 = .ok (.ifCond .eq 43, 3) := by decide +kernel
theorem dX12_can_39 : decode cX12_can 39 = .ok (.aload_n 0, 1) := by decide +kernel
theorem dX12_can_40 : decode cX12_can 40 = .ok (.getfield 10, 3) := by decide +kernel
theorem dX12_can_43 : decode cX12_can 43 = .ok (.iload_n 3, 1) := by decide +kernel
theorem dX12_can_44 : decode cX12_can 44 = .ok (.invokeinterface 43 2, 5) := by decide +kernel
theorem dX12_can_49 : decode cX12_can 49 = .ok (.checkcast 47, 3) := by decide +kernel
theorem dX12_can_52 : decode cX12_can 52 = .ok (.ldc 223, 2) := by decide +kernel
theorem dX12_can_54 : decode cX12_can 54 = .ok (.invokevirtual 179, 3) := by decide +kernel
theorem dX12_can_57 : decode cX12_can 57 = .ok (.ifCond .ne 26, 3) := by decide +kernel
theorem dX12_can_60 : decode cX12_can 60 = .ok (.aload_n 0, 1) := by decide +kernel
theorem dX12_can_61 : decode cX12_can 61 = .ok (.getfield 10, 3) := by decide +kernel
theorem dX12_can_64 : decode cX12_can 64 = .ok (.iload_n 3, 1) := by decide +kernel
theorem dX12_can_65 : decode cX12_can 65 = .ok (.invokeinterface 43 2, 5) := by decide +kernel
theorem dX12_can_70 : decode cX12_can 70 = .ok (.checkcast 47, 3) := by decide +kernel
theorem dX12_can_73 : decode cX12_can 73 = .ok (.invokevirtual 195, 3) := by decide +kernel
theorem dX12_can_76 : decode cX12_can 76 = .ok (.ifCond .ne 7, 3) := by decide +kernel
theorem dX12_can_79 : decode cX12_can 79 = .ok (.iconst 1, 1) := by decide +kernel
theorem dX12_can_80 : decode cX12_can 80 = .ok (.goto 4, 3) := by decide +kernel
theorem dX12_can_83 : decode cX12_can 83 = .ok (.iconst 0, 1) := by decide +kernel
theorem dX12_can_84 : decode cX12_can 84 = .ok (.iand, 1) := by decide +kernel
theorem dX12_can_85 : decode cX12_can 85 = .ok (.istore_n 2, 1) := by decide +kernel
theorem dX12_can_86 : decode cX12_can 86 = .ok (.iinc 3 1, 3) := by decide +kernel
theorem dX12_can_89 : decode cX12_can 89 = .ok (.goto (-73), 3) := by decide +kernel
theorem dX12_can_92 : decode cX12_can 92 = .ok (.iload_n 2, 1) := by decide +kernel
theorem dX12_can_93 : decode cX12_can 93 = .ok (.ireturn, 1) := by decide +kernel
theorem dX12_canTest_0 : decode cX12_canTest 0 = .ok (.aload_n 0, 1) := by decide +kernel
theorem dX12_canTest_1 : decode cX12_canTest 1 = .ok (.aload_n 0, 1) := by decide +kernel
theorem dX12_canTest_2 : decode cX12_canTest 2 = .ok (.iload_n 1, 1) := by decide +kernel
theorem dX12_canTest_3 : decode cX12_canTest 3 = .ok (.invokevirtual 217, 3) := by decide +kernel
theorem dX12_canTest_6 : decode cX12_canTest 6 = .ok (.ifCond .eq 7, 3) := by decide +kernel
theorem dX12_canTest_9 : decode cX12_canTest 9 = .ok (.iconst 0, 1) := by decide +kernel
theorem dX12_canTest_10 : decode cX12_canTest 10 = .ok (.goto 4, 3) := by decide +kernel
theorem dX12_canTest_13 : decode cX12_canTest 13 = .ok (.iconst 1, 1) := by decide +kernel
theorem dX12_canTest_14 : decode cX12_canTest 14 = .ok (.invokevirtual 59, 3) := by decide +kernel
theorem dX12_canTest_17 : decode cX12_canTest 17 = .ok (.ifCond .ne 15, 3) := by decide +kernel
theorem dX12_canTest_20 : decode cX12_canTest 20 = .ok (.aload_n 0, 1) := by decide +kernel
theorem dX12_canTest_21 : decode cX12_canTest 21 = .ok (.iload_n 1, 1) := by decide +kernel
theorem dX12_canTest_22 : decode cX12_canTest 22 = .ok (.invokevirtual 225, 3) := by decide +kernel
theorem dX12_canTest_25 : decode cX12_canTest 25 = .ok (.ifCond .eq 7, 3) := by decide +kernel
theorem dX12_canTest_28 : decode cX12_canTest 28 = .ok (.iconst 1, 1) := by decide +kernel
theorem dX12_canTest_29 : decode cX12_canTest 29 = .ok (.goto 4, 3) := by decide +kernel
theorem dX12_canTest_32 : decode cX12_canTest 32 = .ok (.iconst 0, 1) := by decide +kernel
theorem dX12_canTest_33 : decode cX12_canTest 33 = .ok (.ireturn, 1) := by decide +kernel
theorem dX12_testAll_0 : decode cX12_testAll 0 = .ok (.aload_n 0, 1) := by decide +kernel
theorem dX12_testAll_1 : decode cX12_testAll 1 = .ok (.aload_n 0, 1) := by decide +kernel
theorem dX12_testAll_2 : decode cX12_testAll 2 = .ok (.iload_n 1, 1) := by decide +kernel
theorem dX12_testAll_3 : decode cX12_testAll 3 = .ok (.invokevirtual 217, 3) := by decide +kernel
theorem dX12_testAll_6 : decode cX12_testAll 6 = .ok (.ifCond .ne 7, 3) := by decide +kernel
theorem dX12_testAll_9 : decode cX12_testAll 9 = .ok (.iconst 1, 1) := by decide +kernel
theorem dX12_testAll_10 : decode cX12_testAll 10 = .ok (.goto 16, 3) := by decide +kernel
theorem dX12_testAll_13 : decode cX12_testAll 13 = .ok (.aload_n 0, 1) := by decide +kernel
theorem dX12_testAll_14 : decode cX12_testAll 14 = .ok (.iload_n 1, 1) := by decide +kernel
theorem dX12_testAll_15 : decode cX12_testAll 15 = .ok (.invokevirtual 225, 3) := by decide +kernel
theorem dX12_testAll_18 : decode cX12_testAll 18 = .ok (.ifCond .eq 7, 3) := by decide +kernel
theorem dX12_testAll_21 : decode cX12_testAll 21 = .ok (.iconst 0, 1) := by decide +kernel
theorem dX12_testAll_22 : decode cX12_testAll 22 = .ok (.goto 4, 3) := by decide +kernel
theorem dX12_testAll_25 : decode cX12_testAll 25 = .ok (.iconst 2, 1) := by decide +kernel
theorem dX12_testAll_26 : decode cX12_testAll 26 = .ok (.invokevirtual 59, 3) := by decide +kernel
theorem dX12_testAll_29 : decode cX12_testAll 29 = .ok (.ifCond .eq 5, 3) := by decide +kernel
theorem dX12_testAll_32 : decode cX12_testAll 32 = .ok (.iconst 0, 1) := by decide +kernel
theorem dX12_testAll_33 : decode cX12_testAll 33 = .ok (.ireturn, 1) := by decide +kernel
theorem dX12_testAll_34 : decode cX12_testAll 34 = .ok (.iconst 0, 1) := by decide +kernel
theorem dX12_testAll_35 : decode cX12_testAll 35 = .ok (.istore_n 2, 1) := by decide +kernel
theorem dX12_testAll_36 : decode cX12_testAll 36 = .ok (.iconst 0, 1) := by decide +kernel
theorem dX12_testAll_37 : decode cX12_testAll 37 = .ok (.istore_n 3, 1) := by decide +kernel
theorem dX12_testAll_38 : decode cX12_testAll 38 = .ok (.iload_n 3, 1) := by decide +kernel
theorem dX12_testAll_39 : decode cX12_testAll 39 = .ok (.aload_n 0, 1) := by decide +kernel
theorem dX12_testAll_40 : decode cX12_testAll 40 = .ok (.getfield 10, 3) := by decide +kernel
theorem dX12_testAll_43 : decode cX12_testAll 43 = .ok (.invokeinterface 29 1, 5) := by decide +kernel
theorem dX12_testAll_48 : decode cX12_testAll 48 = .ok (.if_icmp .ge 63, 3) := by decide +kernel
theorem dX12_testAll_51 : decode cX12_testAll 51 = .ok (.aload_n 0, 1) := by decide +kernel
theorem dX12_testAll_52 : decode cX12_testAll 52 = .ok (.getfield 10, 3) := by decide +kernel
theorem dX12_testAll_55 : decode cX12_testAll 55 = .ok (.iload_n 3, 1) := by decide +kernel
theorem dX12_testAll_56 : decode cX12_testAll 56 = .ok (.invokeinterface 43 2, 5) := by decide +kernel
theorem dX12_testAll_61 : decode cX12_testAll 61 = .ok (.checkcast 47, 3) := by decide +kernel
theorem dX12_testAll_64 : decode cX12_testAll 64 = .ok (.dup, 1) := by decide +kernel
theorem dX12_testAll_65 : decode cX12_testAll 65 = .ok (.getfield 73, 3) := by decide +kernel
theorem dX12_testAll_68 : decode cX12_testAll 68 = .ok (.aload_n 0, 1) := by decide +kernel
theorem dX12_testAll_69 : decode cX12_testAll 69 = .ok (.iload_n 1, 1) := by decide +kernel
theorem dX12_testAll_70 : decode cX12_testAll 70 = .ok (.iload_n 3, 1) := by decide +kernel
theorem dX12_testAll_71 : decode cX12_testAll 71 = .ok (.invokevirtual 214, 3) := by decide +kernel
theorem dX12_testAll_74 : decode cX12_testAll 74 = .ok (.ior, 1) := by decide +kernel
theorem dX12_testAll_75 : decode cX12_testAll 75 = .ok (.putfield 73, 3) := by decide +kernel
theorem dX12_testAll_78 : decode cX12_testAll 78 = .ok (.iload_n 2, 1) := by decide +kernel
theorem dX12_testAll_79 : decode cX12_testAll 79 = .ok (.aload_n 0, 1) := by decide +kernel
theorem dX12_testAll_80 : decode cX12_testAll 80 = .ok (.getfield 10, 3) := by decide +kernel
theorem dX12_testAll_83 : decode cX12_testAll 83 = .ok (.iload_n 3, 1) := by decide +kernel
theorem dX12_testAll_84 : decode cX12_testAll 84 = .ok (.invokeinterface 43 2, 5) := by decide +kernel
theorem dX12_testAll_89 : decode cX12_testAll 89 = .ok (.checkcast 47, 3) := by decide +kernel
theorem dX12_testAll_92 : decode cX12_testAll 92 = .ok (.getfield 73, 3) := by decide +kernel
theorem dX12_testAll_95 : decode cX12_testAll 95 = .ok (.ifCond .eq 7, 3) := by decide +kernel
theorem dX12_testAll_98 : decode cX12_testAll 98 = .ok (.iconst 1, 1) := by decide +kernel
theorem dX12_testAll_99 : decode cX12_testAll 99 = .ok (.goto 4, 3) := by decide +kernel
theorem dX12_testAll_102 : decode cX12_testAll 102 = .ok (.iconst 0, 1) := by decide +kernel
theorem dX12_testAll_103 : decode cX12_testAll 103 = .ok (.iadd, 1) := by decide +kernel
theorem dX12_testAll_104 : decode cX12_testAll 104 = .ok (.istore_n 2, 1) := by decide +kernel
theorem dX12_testAll_105 : decode cX12_testAll 105 = .ok (.iinc 3 1, 3) := by decide +kernel
theorem dX12_testAll_108 : decode cX12_testAll 108 = .ok (.goto (-70), 3) := by decide +kernel
theorem dX12_testAll_111 : decode cX12_testAll 111 = .ok (.iload_n 2, 1) := by decide +kernel
theorem dX12_testAll_112 : decode cX12_testAll 112 = .ok (.ireturn, 1) := by decide +kernel
theorem dX12_isTested_0 : decode cX12_isTested 0 = .ok (.aload_n 0, 1) := by decide +kernel
theorem dX12_isTested_1 : decode cX12_isTested 1 = .ok (.aload_n 0, 1) := by decide +kernel
theorem dX12_isTested_2 : decode cX12_isTested 2 = .ok (.iload_n 1, 1) := by decide +kernel
theorem dX12_isTested_3 : decode cX12_isTested 3 = .ok (.invokevirtual 39, 3) := by decide +kernel
theorem dX12_isTested_6 : decode cX12_isTested 6 = .ok (.ifCond .eq 7, 3) := by decide +kernel
theorem dX12_isTested_9 : decode cX12_isTested 9 = .ok (.iconst 0, 1) := by decide +kernel
theorem dX12_isTested_10 : decode cX12_isTested 10 = .ok (.goto 4, 3) := by decide +kernel
theorem dX12_isTested_13 : decode cX12_isTested 13 = .ok (.iconst 1, 1) := by decide +kernel
theorem dX12_isTested_14 : decode cX12_isTested 14 = .ok (.invokevirtual 59, 3) := by decide +kernel
theorem dX12_isTested_17 : decode cX12_isTested 17 = .ok (.ifCond .ne 26, 3) := by decide +kernel
theorem dX12_isTested_20 : decode cX12_isTested 20 = .ok (.aload_n 0, 1) := by decide +kernel
theorem dX12_isTested_21 : decode cX12_isTested 21 = .ok (.getfield 10, 3) := by decide +kernel
theorem dX12_isTested_24 : decode cX12_isTested 24 = .ok (.iload_n 1, 1) := by decide +kernel
theorem dX12_isTested_25 : decode cX12_isTested 25 = .ok (.invokeinterface 43 2, 5) := by decide +kernel
theorem dX12_isTested_30 : decode cX12_isTested 30 = .ok (.checkcast 47, 3) := by decide +kernel
theorem dX12_isTested_33 : decode cX12_isTested 33 = .ok (.getfield 73, 3) := by decide +kernel
theorem dX12_isTested_36 : decode cX12_isTested 36 = .ok (.ifCond .eq 7, 3) := by decide +kernel
theorem dX12_isTested_39 : decode cX12_isTested 39 = .ok (.iconst 1, 1) := by decide +kernel
theorem dX12_isTested_40 : decode cX12_isTested 40 = .ok (.goto 4, 3) := by decide +kernel
theorem dX12_isTested_43 : decode cX12_isTested 43 = .ok (.iconst 0, 1) := by decide +kernel
theorem dX12_isTested_44 : decode cX12_isTested 44 = .ok (.ireturn, 1) := by decide +kernel
theorem dX12_lackOf_0 : decode cX12_lackOf 0 = .ok (.aload_n 0, 1) := by decide +kernel
theorem dX12_lackOf_1 : decode cX12_lackOf 1 = .ok (.getfield 10, 3) := by decide +kernel
theorem dX12_lackOf_4 : decode cX12_lackOf 4 = .ok (.iload_n 1, 1) := by decide +kernel
theorem dX12_lackOf_5 : decode cX12_lackOf 5 = .ok (.invokeinterface 43 2, 5) := by decide +kernel
theorem dX12_lackOf_10 : decode cX12_lackOf 10 = .ok (.checkcast 47, 3) := by decide +kernel
theorem dX12_lackOf_13 : decode cX12_lackOf 13 = .ok (.astore_n 3, 1) := by decide +kernel
theorem dX12_lackOf_14 : decode cX12_lackOf 14 = .ok (.aload_n 3, 1) := by decide +kernel
theorem dX12_lackOf_15 : decode cX12_lackOf 15 = .ok (.getfield 49, 3) := by decide +kernel
theorem dX12_lackOf_18 : decode cX12_lackOf 18 = .ok (.iload_n 2, 1) := by decide +kernel
theorem dX12_lackOf_19 : decode cX12_lackOf 19 = .ok (.invokeinterface 43 2, 5) := by decide +kernel
theorem dX12_lackOf_24 : decode cX12_lackOf 24 = .ok (.checkcast 55, 3) := by decide +kernel
theorem dX12_lackOf_27 : decode cX12_lackOf 27 = .ok (.getfield 96, 3) := by decide +kernel
theorem dX12_lackOf_30 : decode cX12_lackOf 30 = .ok (.istore 4, 2) := by decide +kernel
theorem dX12_lackOf_32 : decode cX12_lackOf 32 = .ok (.aload_n 3, 1) := by decide +kernel
theorem dX12_lackOf_33 : decode cX12_lackOf 33 = .ok (.getfield 49, 3) := by decide +kernel
theorem dX12_lackOf_36 : decode cX12_lackOf 36 = .ok (.iload_n 2, 1) := by decide +kernel
theorem dX12_lackOf_37 : decode cX12_lackOf 37 = .ok (.iconst 1, 1) := by decide +kernel
theorem dX12_lackOf_38 : decode cX12_lackOf 38 = .ok (.iadd, 1) := by decide +kernel
theorem dX12_lackOf_39 : decode cX12_lackOf 39 = .ok (.invokeinterface 43 2, 5) := by decide +kernel
theorem dX12_lackOf_44 : decode cX12_lackOf 44 = .ok (.checkcast 55, 3) := by decide +kernel
theorem dX12_lackOf_47 : decode cX12_lackOf 47 = .ok (.getfield 96, 3) := by decide +kernel
theorem dX12_lackOf_50 : decode cX12_lackOf 50 = .ok (.istore 5, 2) := by decide +kernel
theorem dX12_lackOf_52 : decode cX12_lackOf 52 = .ok (.iload 4, 2) := by decide +kernel
theorem dX12_lackOf_54 : decode cX12_lackOf 54 = .ok (.iconst (-1), 1) := by decide +kernel
theorem dX12_lackOf_55 : decode cX12_lackOf 55 = .ok (.if_icmp .eq 9, 3) := by decide +kernel
theorem dX12_lackOf_58 : decode cX12_lackOf 58 = .ok (.iload 5, 2) := by decide +kernel
theorem dX12_lackOf_60 : decode cX12_lackOf 60 = .ok (.iconst (-1), 1) := by decide +kernel
theorem dX12_lackOf_61 : decode cX12_lackOf 61 = .ok (.if_icmp .ne 6, 3) := by decide +kernel
theorem dX12_lackOf_64 : decode cX12_lackOf 64 = .ok (.bipush 115, 2) := by decide +kernel
theorem dX12_lackOf_66 : decode cX12_lackOf 66 = .ok (.ireturn, 1) := by decide +kernel
theorem dX12_lackOf_67 : decode cX12_lackOf 67 = .ok (.aload_n 0, 1) := by decide +kernel
theorem dX12_lackOf_68 : decode cX12_lackOf 68 = .ok (.getfield 16, 3) := by decide +kernel
theorem dX12_lackOf_71 : decode cX12_lackOf 71 = .ok (.iload 4, 2) := by decide +kernel
theorem dX12_lackOf_73 : decode cX12_lackOf 73 = .ok (.invokeinterface 43 2, 5) := by decide +kernel
theorem dX12_lackOf_78 : decode cX12_lackOf 78 = .ok (.checkcast 99, 3) := by decide +kernel
theorem dX12_lackOf_81 : decode cX12_lackOf 81 = .ok (.getfield 140, 3) := by decide +kernel
theorem dX12_lackOf_84 : decode cX12_lackOf 84 = .ok (.ifCond .eq 23, 3) := by decide +kernel
theorem dX12_lackOf_87 : decode cX12_lackOf 87 = .ok (.aload_n 0, 1) := by decide +kernel
theorem dX12_lackOf_88 : decode cX12_lackOf 88 = .ok (.getfield 16, 3) := by decide +kernel
theorem dX12_lackOf_91 : decode cX12_lackOf 91 = .ok (.iload 5, 2) := by decide +kernel
theorem dX12_lackOf_93 : decode cX12_lackOf 93 = .ok (.invokeinterface 43 2, 5) := by decide +kernel
theorem dX12_lackOf_98 : decode cX12_lackOf 98 = .ok (.checkcast 99, 3) := by decide +kernel
theorem dX12_lackOf_101 : decode cX12_lackOf 101 = .ok (.getfield 140, 3) := by decide +kernel
theorem dX12_lackOf_104 : decode cX12_lackOf 104 = .ok (.ifCond .ne 6, 3) := by decide +kernel
theorem dX12_lackOf_107 : decode cX12_lackOf 107 = .ok (.bipush 112, 2) := by decide +kernel
theorem dX12_lackOf_109 : decode cX12_lackOf 109 = .ok (.ireturn, 1) := by decide +kernel
theorem dX12_lackOf_110 : decode cX12_lackOf 110 = .ok (.aload_n 3, 1) := by decide +kernel
theorem dX12_lackOf_111 : decode cX12_lackOf 111 = .ok (.getfield 52, 3) := by decide +kernel
theorem dX12_lackOf_114 : decode cX12_lackOf 114 = .ok (.iload_n 2, 1) := by decide +kernel
theorem dX12_lackOf_115 : decode cX12_lackOf 115 = .ok (.invokeinterface 43 2, 5) := by decide +kernel
theorem dX12_lackOf_120 : decode cX12_lackOf 120 = .ok (.checkcast 57, 3) := by decide +kernel
theorem dX12_lackOf_123 : decode cX12_lackOf 123 = .ok (.getfield 85, 3) := by decide +kernel
theorem dX12_lackOf_126 : decode cX12_lackOf 126 = .ok (.istore 6, 2) := by decide +kernel
theorem dX12_lackOf_128 : decode cX12_lackOf 128 = .ok (.iload 6, 2) := by decide +kernel
theorem dX12_lackOf_130 : decode cX12_lackOf 130 = .ok (.bipush 110, 2) := by decide +kernel
theorem dX12_lackOf_132 : decode cX12_lackOf 132 = .ok (.if_icmp .ne 8, 3) := by decide +kernel
theorem dX12_lackOf_135 : decode cX12_lackOf 135 = .ok (.bipush 119, 2) := by decide +kernel
theorem dX12_lackOf_137 : decode cX12_lackOf 137 = .ok (.goto 53, 3) := by decide +kernel
theorem dX12_lackOf_140 : decode cX12_lackOf 140 = .ok (.iload 6, 2) := by decide +kernel
theorem dX12_lackOf_142 : decode cX12_lackOf 142 = .ok (.bipush 98, 2) := by decide +kernel
theorem dX12_lackOf_144 : decode cX12_lackOf 144 = .ok (.if_icmp .ne 8, 3) := by decide +kernel
theorem dX12_lackOf_147 : decode cX12_lackOf 147 = .ok (.bipush 98, 2) := by decide +kernel
theorem dX12_lackOf_149 : decode cX12_lackOf 149 = .ok (.goto 41, 3) := by decide +kernel
theorem dX12_lackOf_152 : decode cX12_lackOf 152 = .ok (.aload_n 3, 1) := by decide +kernel
theorem dX12_lackOf_153 : decode cX12_lackOf 153 = .ok (.invokevirtual 195, 3) := by decide +kernel
theorem dX12_lackOf_156 : decode cX12_lackOf 156 = .ok (.ifCond .le 8, 3) := by decide +kernel
theorem dX12_lackOf_159 : decode cX12_lackOf 159 = .ok (.bipush 108, 2) := by decide +kernel
theorem dX12_lackOf_161 : decode cX12_lackOf 161 = .ok (.goto 29, 3) := by decide +kernel
theorem dX12_lackOf_164 : decode cX12_lackOf 164 = .ok (.aload_n 3, 1) := by decide +kernel
theorem dX12_lackOf_165 : decode cX12_lackOf 165 = .ok (.getfield 73, 3) := by decide +kernel
theorem dX12_lackOf_168 : decode cX12_lackOf 168 = .ok (.ifCond .ne 8, 3) := by decide +kernel
theorem dX12_lackOf_171 : decode cX12_lackOf 171 = .ok (.bipush 116, 2) := by decide +kernel
theorem dX12_lackOf_173 : decode cX12_lackOf 173 = .ok (.goto 17, 3) := by decide +kernel
theorem dX12_lackOf_176 : decode cX12_lackOf 176 = .ok (.aload_n 3, 1) := by decide +kernel
theorem dX12_lackOf_177 : decode cX12_lackOf 177 = .ok (.invokevirtual 228, 3) := by decide +kernel
theorem dX12_lackOf_180 : decode cX12_lackOf 180 = .ok (.ifCond .eq 8, 3) := by decide +kernel
theorem dX12_lackOf_183 : decode cX12_lackOf 183 = .ok (.bipush 105, 2) := by decide +kernel
theorem dX12_lackOf_185 : decode cX12_lackOf 185 = .ok (.goto 5, 3) := by decide +kernel
theorem dX12_lackOf_188 : decode cX12_lackOf 188 = .ok (.bipush 45, 2) := by decide +kernel
theorem dX12_lackOf_190 : decode cX12_lackOf 190 = .ok (.ireturn, 1) := by decide +kernel
theorem dX12_lack_0 : decode cX12_lack 0 = .ok (.aload_n 0, 1) := by decide +kernel
theorem dX12_lack_1 : decode cX12_lack 1 = .ok (.aload_n 0, 1) := by decide +kernel
theorem dX12_lack_2 : decode cX12_lack 2 = .ok (.iload_n 1, 1) := by decide +kernel
theorem dX12_lack_3 : decode cX12_lack 3 = .ok (.iload_n 2, 1) := by decide +kernel
theorem dX12_lack_4 : decode cX12_lack 4 = .ok (.invokevirtual 77, 3) := by decide +kernel
theorem dX12_lack_7 : decode cX12_lack 7 = .ok (.ifCond .eq 7, 3) := by decide +kernel
theorem dX12_lack_10 : decode cX12_lack 10 = .ok (.iconst 0, 1) := by decide +kernel
theorem dX12_lack_11 : decode cX12_lack 11 = .ok (.goto 4, 3) := by decide +kernel
theorem dX12_lack_14 : decode cX12_lack 14 = .ok (.iconst 1, 1) := by decide +kernel
theorem dX12_lack_15 : decode cX12_lack 15 = .ok (.invokevirtual 59, 3) := by decide +kernel
theorem dX12_lack_18 : decode cX12_lack 18 = .ok (.ifCond .eq 8, 3) := by decide +kernel
theorem dX12_lack_21 : decode cX12_lack 21 = .ok (.bipush 32, 2) := by decide +kernel
theorem dX12_lack_23 : decode cX12_lack 23 = .ok (.goto 9, 3) := by decide +kernel
theorem dX12_lack_26 : decode cX12_lack 26 = .ok (.aload_n 0, 1) := by decide +kernel
theorem dX12_lack_27 : decode cX12_lack 27 = .ok (.iload_n 1, 1) := by decide +kernel
theorem dX12_lack_28 : decode cX12_lack 28 = .ok (.iload_n 2, 1) := by decide +kernel
theorem dX12_lack_29 : decode cX12_lack 29 = .ok (.invokevirtual 232, 3) := by decide +kernel
theorem dX12_lack_32 : decode cX12_lack 32 = .ok (.ireturn, 1) := by decide +kernel
theorem dX12_many_0 : decode cX12_many 0 = .ok (.iconst 0, 1) := by decide +kernel
theorem dX12_many_1 : decode cX12_many 1 = .ok (.istore_n 2, 1) := by decide +kernel
theorem dX12_many_2 : decode cX12_many 2 = .ok (.iconst 0, 1) := by decide +kernel
theorem dX12_many_3 : decode cX12_many 3 = .ok (.istore_n 3, 1) := by decide +kernel
theorem dX12_many_4 : decode cX12_many 4 = .ok (.iload_n 3, 1) := by decide +kernel
theorem dX12_many_5 : decode cX12_many 5 = .ok (.aload_n 0, 1) := by decide +kernel
theorem dX12_many_6 : decode cX12_many 6 = .ok (.getfield 10, 3) := by decide +kernel
theorem dX12_many_9 : decode cX12_many 9 = .ok (.invokeinterface 29 1, 5) := by decide +kernel
theorem dX12_many_14 : decode cX12_many 14 = .ok (.if_icmp .ge 63, 3) := by decide +kernel
theorem dX12_many_17 : decode cX12_many 17 = .ok (.iconst 0, 1) := by decide +kernel
theorem dX12_many_18 : decode cX12_many 18 = .ok (.istore 4, 2) := by decide +kernel
theorem dX12_many_20 : decode cX12_many 20 = .ok (.iload 4, 2) := by decide +kernel
theorem dX12_many_22 : decode cX12_many 22 = .ok (.aload_n 0, 1) := by decide +kernel
theorem dX12_many_23 : decode cX12_many 23 = .ok (.getfield 10, 3) := by decide +kernel
theorem dX12_many_26 : decode cX12_many 26 = .ok (.iload_n 3, 1) := by decide +kernel
theorem dX12_many_27 : decode cX12_many 27 = .ok (.invokeinterface 43 2, 5) := by decide +kernel
theorem dX12_many_32 : decode cX12_many 32 = .ok (.checkcast 47, 3) := by decide +kernel
theorem dX12_many_35 : decode cX12_many 35 = .ok (.getfield 52, 3) := by decide +kernel
theorem dX12_many_38 : decode cX12_many 38 = .ok (.invokeinterface 29 1, 5) := by decide +kernel
theorem dX12_many_43 : decode cX12_many 43 = .ok (.if_icmp .ge 28, 3) := by decide +kernel
theorem dX12_many_46 : decode cX12_many 46 = .ok (.iload_n 2, 1) := by decide +kernel
theorem dX12_many_47 : decode cX12_many 47 = .ok (.aload_n 0, 1) := by decide +kernel
theorem dX12_many_48 : decode cX12_many 48 = .ok (.iload_n 3, 1) := by decide +kernel
theorem dX12_many_49 : decode cX12_many 49 = .ok (.iload 4, 2) := by decide +kernel
theorem dX12_many_51 : decode cX12_many 51 = .ok (.invokevirtual 232, 3) := by decide +kernel
theorem dX12_many_54 : decode cX12_many 54 = .ok (.iload_n 1, 1) := by decide +kernel
theorem dX12_many_55 : decode cX12_many 55 = .ok (.if_icmp .ne 7, 3) := by decide +kernel
theorem dX12_many_58 : decode cX12_many 58 = .ok (.iconst 1, 1) := by decide +kernel
theorem dX12_many_59 : decode cX12_many 59 = .ok (.goto 4, 3) := by decide +kernel
theorem dX12_many_62 : decode cX12_many 62 = .ok (.iconst 0, 1) := by decide +kernel
theorem dX12_many_63 : decode cX12_many 63 = .ok (.iadd, 1) := by decide +kernel
theorem dX12_many_64 : decode cX12_many 64 = .ok (.istore_n 2, 1) := by decide +kernel
theorem dX12_many_65 : decode cX12_many 65 = .ok (.iinc 4 1, 3) := by decide +kernel
theorem dX12_many_68 : decode cX12_many 68 = .ok (.goto (-48), 3) := by decide +kernel
theorem dX12_many_71 : decode cX12_many 71 = .ok (.iinc 3 1, 3) := by decide +kernel
theorem dX12_many_74 : decode cX12_many 74 = .ok (.goto (-70), 3) := by decide +kernel
theorem dX12_many_77 : decode cX12_many 77 = .ok (.iload_n 2, 1) := by decide +kernel
theorem dX12_many_78 : decode cX12_many 78 = .ok (.ireturn, 1) := by decide +kernel
theorem dX12_lacks_0 : decode cX12_lacks 0 = .ok (.aload_n 0, 1) := by decide +kernel
theorem dX12_lacks_1 : decode cX12_lacks 1 = .ok (.ldc 236, 2) := by decide +kernel
theorem dX12_lacks_3 : decode cX12_lacks 3 = .ok (.iload_n 1, 1) := by decide +kernel
theorem dX12_lacks_4 : decode cX12_lacks 4 = .ok (.invokevirtual 238, 3) := by decide +kernel
theorem dX12_lacks_7 : decode cX12_lacks 7 = .ok (.ifCond .ge 7, 3) := by decide +kernel
theorem dX12_lacks_10 : decode cX12_lacks 10 = .ok (.iconst 1, 1) := by decide +kernel
theorem dX12_lacks_11 : decode cX12_lacks 11 = .ok (.goto 4, 3) := by decide +kernel
theorem dX12_lacks_14 : decode cX12_lacks 14 = .ok (.iconst 0, 1) := by decide +kernel
theorem dX12_lacks_15 : decode cX12_lacks 15 = .ok (.invokevirtual 59, 3) := by decide +kernel
theorem dX12_lacks_18 : decode cX12_lacks 18 = .ok (.ifCond .eq 7, 3) := by decide +kernel
theorem dX12_lacks_21 : decode cX12_lacks 21 = .ok (.iconst 0, 1) := by decide +kernel
theorem dX12_lacks_22 : decode cX12_lacks 22 = .ok (.goto 8, 3) := by decide +kernel
theorem dX12_lacks_25 : decode cX12_lacks 25 = .ok (.aload_n 0, 1) := by decide +kernel
theorem dX12_lacks_26 : decode cX12_lacks 26 = .ok (.iload_n 1, 1) := by decide +kernel
theorem dX12_lacks_27 : decode cX12_lacks 27 = .ok (.invokevirtual 243, 3) := by decide +kernel
theorem dX12_lacks_30 : decode cX12_lacks 30 = .ok (.ireturn, 1) := by decide +kernel
theorem dX12_undone_0 : decode cX12_undone 0 = .ok (.aload_n 0, 1) := by decide +kernel
theorem dX12_undone_1 : decode cX12_undone 1 = .ok (.iconst 0, 1) := by decide +kernel
theorem dX12_undone_2 : decode cX12_undone 2 = .ok (.putfield 25, 3) := by decide +kernel
theorem dX12_undone_5 : decode cX12_undone 5 = .ok (.aload_n 0, 1) := by decide +kernel
theorem dX12_undone_6 : decode cX12_undone 6 = .ok (.getfield 93, 3) := by decide +kernel
theorem dX12_undone_9 : decode cX12_undone 9 = .ok (.ireturn, 1) := by decide +kernel
theorem dX12_allAhead_0 : decode cX12_allAhead 0 = .ok (.aload_n 0, 1) := by decide +kernel
theorem dX12_allAhead_1 : decode cX12_allAhead 1 = .ok (.getfield 10, 3) := by decide +kernel
theorem dX12_allAhead_4 : decode cX12_allAhead 4 = .ok (.iload_n 1, 1) := by decide +kernel
theorem dX12_allAhead_5 : decode cX12_allAhead 5 = .ok (.invokeinterface 43 2, 5) := by decide +kernel
theorem dX12_allAhead_10 : decode cX12_allAhead 10 = .ok (.checkcast 47, 3) := by decide +kernel
theorem dX12_allAhead_13 : decode cX12_allAhead 13 = .ok (.getfield 246, 3) := by decide +kernel
theorem dX12_allAhead_16 : decode cX12_allAhead 16 = .ok (.istore_n 2, 1) := by decide +kernel
theorem dX12_allAhead_17 : decode cX12_allAhead 17 = .ok (.iconst 0, 1) := by decide +kernel
theorem dX12_allAhead_18 : decode cX12_allAhead 18 = .ok (.istore_n 3, 1) := by decide +kernel
theorem dX12_allAhead_19 : decode cX12_allAhead 19 = .ok (.iload_n 3, 1) := by decide +kernel
theorem dX12_allAhead_20 : decode cX12_allAhead 20 = .ok (.iconst 4, 1) := by decide +kernel
theorem dX12_allAhead_21 : decode cX12_allAhead 21 = .ok (.if_icmp .ge 66, 3) := by decide +kernel
theorem dX12_allAhead_24 : decode cX12_allAhead 24 = .ok (.iconst 0, 1) := by decide +kernel
theorem dX12_allAhead_25 : decode cX12_allAhead 25 = .ok (.istore 4, 2) := by decide +kernel
theorem dX12_allAhead_27 : decode cX12_allAhead 27 = .ok (.iload 4, 2) := by decide +kernel
theorem dX12_allAhead_29 : decode cX12_allAhead 29 = .ok (.aload_n 0, 1) := by decide +kernel
theorem dX12_allAhead_30 : decode cX12_allAhead 30 = .ok (.getfield 10, 3) := by decide +kernel
theorem dX12_allAhead_33 : decode cX12_allAhead 33 = .ok (.invokeinterface 29 1, 5) := by decide +kernel
theorem dX12_allAhead_38 : decode cX12_allAhead 38 = .ok (.if_icmp .ge 43, 3) := by decide +kernel
theorem dX12_allAhead_41 : decode cX12_allAhead 41 = .ok (.iload_n 2, 1) := by decide +kernel
theorem dX12_allAhead_42 : decode cX12_allAhead 42 = .ok (.iload_n 2, 1) := by decide +kernel
theorem dX12_allAhead_43 : decode cX12_allAhead 43 = .ok (.iload 4, 2) := by decide +kernel
theorem dX12_allAhead_45 : decode cX12_allAhead 45 = .ok (.ishr, 1) := by decide +kernel
theorem dX12_allAhead_46 : decode cX12_allAhead 46 = .ok (.iconst 1, 1) := by decide +kernel
theorem dX12_allAhead_47 : decode cX12_allAhead 47 = .ok (.iand, 1) := by decide +kernel
theorem dX12_allAhead_48 : decode cX12_allAhead 48 = .ok (.iconst 1, 1) := by decide +kernel
theorem dX12_allAhead_49 : decode cX12_allAhead 49 = .ok (.if_icmp .ne 23, 3) := by decide +kernel
theorem dX12_allAhead_52 : decode cX12_allAhead 52 = .ok (.aload_n 0, 1) := by decide +kernel
theorem dX12_allAhead_53 : decode cX12_allAhead 53 = .ok (.getfield 10, 3) := by decide +kernel
theorem dX12_allAhead_56 : decode cX12_allAhead 56 = .ok (.iload 4, 2) := by decide +kernel
theorem dX12_allAhead_58 : decode cX12_allAhead 58 = .ok (.invokeinterface 43 2, 5) := by decide +kernel
theorem dX12_allAhead_63 : decode cX12_allAhead 63 = .ok (.checkcast 47, 3) := by decide +kernel
theorem dX12_allAhead_66 : decode cX12_allAhead 66 = .ok (.getfield 246, 3) := by decide +kernel
theorem dX12_allAhead_69 : decode cX12_allAhead 69 = .ok (.goto 4, 3) := by decide +kernel
theorem dX12_allAhead_72 : decode cX12_allAhead 72 = .ok (.iconst 0, 1) := by decide +kernel
theorem dX12_allAhead_73 : decode cX12_allAhead 73 = .ok (.ior, 1) := by decide +kernel
theorem dX12_allAhead_74 : decode cX12_allAhead 74 = .ok (.istore_n 2, 1) := by decide +kernel
theorem dX12_allAhead_75 : decode cX12_allAhead 75 = .ok (.iinc 4 1, 3) := by decide +kernel
theorem dX12_allAhead_78 : decode cX12_allAhead 78 = .ok (.goto (-51), 3) := by decide +kernel
theorem dX12_allAhead_81 : decode cX12_allAhead 81 = .ok (.iinc 3 1, 3) := by decide +kernel
theorem dX12_allAhead_84 : decode cX12_allAhead 84 = .ok (.goto (-65), 3) := by decide +kernel
theorem dX12_allAhead_87 : decode cX12_allAhead 87 = .ok (.iload_n 2, 1) := by decide +kernel
theorem dX12_allAhead_88 : decode cX12_allAhead 88 = .ok (.ireturn, 1) := by decide +kernel
theorem dX12_ahead_0 : decode cX12_ahead 0 = .ok (.aload_n 0, 1) := by decide +kernel
theorem dX12_ahead_1 : decode cX12_ahead 1 = .ok (.aload_n 0, 1) := by decide +kernel
theorem dX12_ahead_2 : decode cX12_ahead 2 = .ok (.iload_n 1, 1) := by decide +kernel
theorem dX12_ahead_3 : decode cX12_ahead 3 = .ok (.invokevirtual 39, 3) := by decide +kernel
theorem dX12_ahead_6 : decode cX12_ahead 6 = .ok (.ifCond .eq 11, 3) := by decide +kernel
theorem dX12_ahead_9 : decode cX12_ahead 9 = .ok (.aload_n 0, 1) := by decide +kernel
theorem dX12_ahead_10 : decode cX12_ahead 10 = .ok (.iload_n 2, 1) := by decide +kernel
theorem dX12_ahead_11 : decode cX12_ahead 11 = .ok (.invokevirtual 39, 3) := by decide +kernel
theorem dX12_ahead_14 : decode cX12_ahead 14 = .ok (.ifCond .ne 7, 3) := by decide +kernel
theorem dX12_ahead_17 : decode cX12_ahead 17 = .ok (.iconst 1, 1) := by decide +kernel
theorem dX12_ahead_18 : decode cX12_ahead 18 = .ok (.goto 30, 3) := by decide +kernel
theorem dX12_ahead_21 : decode cX12_ahead 21 = .ok (.iload_n 1, 1) := by decide +kernel
theorem dX12_ahead_22 : decode cX12_ahead 22 = .ok (.iload_n 2, 1) := by decide +kernel
theorem dX12_ahead_23 : decode cX12_ahead 23 = .ok (.if_icmp .ne 7, 3) := by decide +kernel
theorem dX12_ahead_26 : decode cX12_ahead 26 = .ok (.iconst 2, 1) := by decide +kernel
theorem dX12_ahead_27 : decode cX12_ahead 27 = .ok (.goto 21, 3) := by decide +kernel
theorem dX12_ahead_30 : decode cX12_ahead 30 = .ok (.aload_n 0, 1) := by decide +kernel
theorem dX12_ahead_31 : decode cX12_ahead 31 = .ok (.iload_n 1, 1) := by decide +kernel
theorem dX12_ahead_32 : decode cX12_ahead 32 = .ok (.invokevirtual 249, 3) := by decide +kernel
theorem dX12_ahead_35 : decode cX12_ahead 35 = .ok (.iload_n 2, 1) := by decide +kernel
theorem dX12_ahead_36 : decode cX12_ahead 36 = .ok (.ishr, 1) := by decide +kernel
theorem dX12_ahead_37 : decode cX12_ahead 37 = .ok (.iconst 1, 1) := by decide +kernel
theorem dX12_ahead_38 : decode cX12_ahead 38 = .ok (.iand, 1) := by decide +kernel
theorem dX12_ahead_39 : decode cX12_ahead 39 = .ok (.iconst 1, 1) := by decide +kernel
theorem dX12_ahead_40 : decode cX12_ahead 40 = .ok (.if_icmp .ne 7, 3) := by decide +kernel
theorem dX12_ahead_43 : decode cX12_ahead 43 = .ok (.iconst 3, 1) := by decide +kernel
theorem dX12_ahead_44 : decode cX12_ahead 44 = .ok (.goto 4, 3) := by decide +kernel
theorem dX12_ahead_47 : decode cX12_ahead 47 = .ok (.iconst 0, 1) := by decide +kernel
theorem dX12_ahead_48 : decode cX12_ahead 48 = .ok (.invokevirtual 59, 3) := by decide +kernel
theorem dX12_ahead_51 : decode cX12_ahead 51 = .ok (.ifCond .eq 5, 3) := by decide +kernel
theorem dX12_ahead_54 : decode cX12_ahead 54 = .ok (.iconst 0, 1) := by decide +kernel
theorem dX12_ahead_55 : decode cX12_ahead 55 = .ok (.ireturn, 1) := by decide +kernel
theorem dX12_ahead_56 : decode cX12_ahead 56 = .ok (.aload_n 0, 1) := by decide +kernel
theorem dX12_ahead_57 : decode cX12_ahead 57 = .ok (.getfield 10, 3) := by decide +kernel
theorem dX12_ahead_60 : decode cX12_ahead 60 = .ok (.iload_n 2, 1) := by decide +kernel
theorem dX12_ahead_61 : decode cX12_ahead 61 = .ok (.invokeinterface 43 2, 5) := by decide +kernel
theorem dX12_ahead_66 : decode cX12_ahead 66 = .ok (.checkcast 47, 3) := by decide +kernel
theorem dX12_ahead_69 : decode cX12_ahead 69 = .ok (.getfield 246, 3) := by decide +kernel
theorem dX12_ahead_72 : decode cX12_ahead 72 = .ok (.iload_n 1, 1) := by decide +kernel
theorem dX12_ahead_73 : decode cX12_ahead 73 = .ok (.ishr, 1) := by decide +kernel
theorem dX12_ahead_74 : decode cX12_ahead 74 = .ok (.iconst 1, 1) := by decide +kernel
theorem dX12_ahead_75 : decode cX12_ahead 75 = .ok (.iand, 1) := by decide +kernel
theorem dX12_ahead_76 : decode cX12_ahead 76 = .ok (.iconst 1, 1) := by decide +kernel
theorem dX12_ahead_77 : decode cX12_ahead 77 = .ok (.if_icmp .ne 7, 3) := by decide +kernel
theorem dX12_ahead_80 : decode cX12_ahead 80 = .ok (.iconst 1, 1) := by decide +kernel
theorem dX12_ahead_81 : decode cX12_ahead 81 = .ok (.goto 4, 3) := by decide +kernel
theorem dX12_ahead_84 : decode cX12_ahead 84 = .ok (.iconst 0, 1) := by decide +kernel
theorem dX12_ahead_85 : decode cX12_ahead 85 = .ok (.istore_n 3, 1) := by decide +kernel
theorem dX12_ahead_86 : decode cX12_ahead 86 = .ok (.aload_n 0, 1) := by decide +kernel
theorem dX12_ahead_87 : decode cX12_ahead 87 = .ok (.getfield 10, 3) := by decide +kernel
theorem dX12_ahead_90 : decode cX12_ahead 90 = .ok (.iload_n 2, 1) := by decide +kernel
theorem dX12_ahead_91 : decode cX12_ahead 91 = .ok (.invokeinterface 43 2, 5) := by decide +kernel
theorem dX12_ahead_96 : decode cX12_ahead 96 = .ok (.checkcast 47, 3) := by decide +kernel
theorem dX12_ahead_99 : decode cX12_ahead 99 = .ok (.dup, 1) := by decide +kernel
theorem dX12_ahead_100 : decode cX12_ahead 100 = .ok (.getfield 246, 3) := by decide +kernel
theorem dX12_ahead_103 : decode cX12_ahead 103 = .ok (.iconst 1, 1) := by decide +kernel
theorem dX12_ahead_104 : decode cX12_ahead 104 = .ok (.iload_n 1, 1) := by decide +kernel
theorem dX12_ahead_105 : decode cX12_ahead 105 = .ok (.ishl, 1) := by decide +kernel
theorem dX12_ahead_106 : decode cX12_ahead 106 = .ok (.ior, 1) := by decide +kernel
theorem dX12_ahead_107 : decode cX12_ahead 107 = .ok (.putfield 246, 3) := by decide +kernel
theorem dX12_ahead_110 : decode cX12_ahead 110 = .ok (.iload_n 3, 1) := by decide +kernel
theorem dX12_ahead_111 : decode cX12_ahead 111 = .ok (.ireturn, 1) := by decide +kernel
theorem dX12_isDone_0 : decode cX12_isDone 0 = .ok (.aload_n 0, 1) := by decide +kernel
theorem dX12_isDone_1 : decode cX12_isDone 1 = .ok (.getfield 10, 3) := by decide +kernel
theorem dX12_isDone_4 : decode cX12_isDone 4 = .ok (.iload_n 1, 1) := by decide +kernel
theorem dX12_isDone_5 : decode cX12_isDone 5 = .ok (.invokeinterface 43 2, 5) := by decide +kernel
theorem dX12_isDone_10 : decode cX12_isDone 10 = .ok (.checkcast 47, 3) := by decide +kernel
theorem dX12_isDone_13 : decode cX12_isDone 13 = .ok (.getfield 52, 3) := by decide +kernel
theorem dX12_isDone_16 : decode cX12_isDone 16 = .ok (.invokeinterface 29 1, 5) := by decide +kernel
theorem dX12_isDone_21 : decode cX12_isDone 21 = .ok (.istore_n 2, 1) := by decide +kernel
theorem dX12_isDone_22 : decode cX12_isDone 22 = .ok (.iload_n 2, 1) := by decide +kernel
theorem dX12_isDone_23 : decode cX12_isDone 23 = .ok (.ifCond .le 7, 3) := by decide +kernel
theorem dX12_isDone_26 : decode cX12_isDone 26 = .ok (.iconst 1, 1) := by decide +kernel
theorem dX12_isDone_27 : decode cX12_isDone 27 = .ok (.goto 4, 3) := by decide +kernel
theorem dX12_isDone_30 : decode cX12_isDone 30 = .ok (.iconst 0, 1) := by decide +kernel
theorem dX12_isDone_31 : decode cX12_isDone 31 = .ok (.istore_n 3, 1) := by decide +kernel
theorem dX12_isDone_32 : decode cX12_isDone 32 = .ok (.iconst 0, 1) := by decide +kernel
theorem dX12_isDone_33 : decode cX12_isDone 33 = .ok (.istore 4, 2) := by decide +kernel
theorem dX12_isDone_35 : decode cX12_isDone 35 = .ok (.iload 4, 2) := by decide +kernel
theorem dX12_isDone_37 : decode cX12_isDone 37 = .ok (.iload_n 2, 1) := by decide +kernel
theorem dX12_isDone_38 : decode cX12_isDone 38 = .ok (.if_icmp .ge 29, 3) := by decide +kernel
theorem dX12_isDone_41 : decode cX12_isDone 41 = .ok (.iload_n 3, 1) := by decide +kernel
theorem dX12_isDone_42 : decode cX12_isDone 42 = .ok (.aload_n 0, 1) := by decide +kernel
theorem dX12_isDone_43 : decode cX12_isDone 43 = .ok (.iload_n 1, 1) := by decide +kernel
theorem dX12_isDone_44 : decode cX12_isDone 44 = .ok (.iload 4, 2) := by decide +kernel
theorem dX12_isDone_46 : decode cX12_isDone 46 = .ok (.invokevirtual 232, 3) := by decide +kernel
theorem dX12_isDone_49 : decode cX12_isDone 49 = .ok (.bipush 45, 2) := by decide +kernel
theorem dX12_isDone_51 : decode cX12_isDone 51 = .ok (.if_icmp .ne 7, 3) := by decide +kernel
theorem dX12_isDone_54 : decode cX12_isDone 54 = .ok (.iconst 1, 1) := by decide +kernel
theorem dX12_isDone_55 : decode cX12_isDone 55 = .ok (.goto 4, 3) := by decide +kernel
theorem dX12_isDone_58 : decode cX12_isDone 58 = .ok (.iconst 0, 1) := by decide +kernel
theorem dX12_isDone_59 : decode cX12_isDone 59 = .ok (.iand, 1) := by decide +kernel
theorem dX12_isDone_60 : decode cX12_isDone 60 = .ok (.istore_n 3, 1) := by decide +kernel
theorem dX12_isDone_61 : decode cX12_isDone 61 = .ok (.iinc 4 1, 3) := by decide +kernel
theorem dX12_isDone_64 : decode cX12_isDone 64 = .ok (.goto (-29), 3) := by decide +kernel
theorem dX12_isDone_67 : decode cX12_isDone 67 = .ok (.iload_n 3, 1) := by decide +kernel
theorem dX12_isDone_68 : decode cX12_isDone 68 = .ok (.ireturn, 1) := by decide +kernel
theorem dX12_isReady_0 : decode cX12_isReady 0 = .ok (.aload_n 0, 1) := by decide +kernel
theorem dX12_isReady_1 : decode cX12_isReady 1 = .ok (.aload_n 0, 1) := by decide +kernel
theorem dX12_isReady_2 : decode cX12_isReady 2 = .ok (.iload_n 1, 1) := by decide +kernel
theorem dX12_isReady_3 : decode cX12_isReady 3 = .ok (.invokevirtual 39, 3) := by decide +kernel
theorem dX12_isReady_6 : decode cX12_isReady 6 = .ok (.ifCond .eq 7, 3) := by decide +kernel
theorem dX12_isReady_9 : decode cX12_isReady 9 = .ok (.iconst 0, 1) := by decide +kernel
theorem dX12_isReady_10 : decode cX12_isReady 10 = .ok (.goto 4, 3) := by decide +kernel
theorem dX12_isReady_13 : decode cX12_isReady 13 = .ok (.iconst 1, 1) := by decide +kernel
theorem dX12_isReady_14 : decode cX12_isReady 14 = .ok (.invokevirtual 59, 3) := by decide +kernel
theorem dX12_isReady_17 : decode cX12_isReady 17 = .ok (.ifCond .eq 5, 3) := by decide +kernel
theorem dX12_isReady_20 : decode cX12_isReady 20 = .ok (.iconst 0, 1) := by decide +kernel
theorem dX12_isReady_21 : decode cX12_isReady 21 = .ok (.ireturn, 1) := by decide +kernel
theorem dX12_isReady_22 : decode cX12_isReady 22 = .ok (.aload_n 0, 1) := by decide +kernel
theorem dX12_isReady_23 : decode cX12_isReady 23 = .ok (.iload_n 1, 1) := by decide +kernel
theorem dX12_isReady_24 : decode cX12_isReady 24 = .ok (.invokevirtual 252, 3) := by decide +kernel
theorem dX12_isReady_27 : decode cX12_isReady 27 = .ok (.istore_n 2, 1) := by decide +kernel
theorem dX12_isReady_28 : decode cX12_isReady 28 = .ok (.iconst 0, 1) := by decide +kernel
theorem dX12_isReady_29 : decode cX12_isReady 29 = .ok (.istore_n 3, 1) := by decide +kernel
theorem dX12_isReady_30 : decode cX12_isReady 30 = .ok (.iload_n 3, 1) := by decide +kernel
theorem dX12_isReady_31 : decode cX12_isReady 31 = .ok (.aload_n 0, 1) := by decide +kernel
theorem dX12_isReady_32 : decode cX12_isReady 32 = .ok (.getfield 10, 3) := by decide +kernel
theorem dX12_isReady_35 : decode cX12_isReady 35 = .ok (.invokeinterface 29 1, 5) := by decide +kernel
theorem dX12_isReady_40 : decode cX12_isReady 40 = .ok (.if_icmp .ge 37, 3) := by decide +kernel
theorem dX12_isReady_43 : decode cX12_isReady 43 = .ok (.iload_n 2, 1) := by decide +kernel
theorem dX12_isReady_44 : decode cX12_isReady 44 = .ok (.aload_n 0, 1) := by decide +kernel
theorem dX12_isReady_45 : decode cX12_isReady 45 = .ok (.iload_n 1, 1) := by decide +kernel
theorem dX12_isReady_46 : decode cX12_isReady 46 = .ok (.invokevirtual 249, 3) := by decide +kernel
theorem dX12_isReady_49 : decode cX12_isReady 49 = .ok (.iload_n 3, 1) := by decide +kernel
theorem dX12_isReady_50 : decode cX12_isReady 50 = .ok (.ishr, 1) := by decide +kernel
theorem dX12_isReady_51 : decode cX12_isReady 51 = .ok (.iconst 1, 1) := by decide +kernel
theorem dX12_isReady_52 : decode cX12_isReady 52 = .ok (.iand, 1) := by decide +kernel
theorem dX12_isReady_53 : decode cX12_isReady 53 = .ok (.ifCond .eq 11, 3) := by decide +kernel
theorem dX12_isReady_56 : decode cX12_isReady 56 = .ok (.aload_n 0, 1) := by decide +kernel
theorem dX12_isReady_57 : decode cX12_isReady 57 = .ok (.iload_n 3, 1) := by decide +kernel
theorem dX12_isReady_58 : decode cX12_isReady 58 = .ok (.invokevirtual 252, 3) := by decide +kernel
theorem dX12_isReady_61 : decode cX12_isReady 61 = .ok (.ifCond .eq 7, 3) := by decide +kernel
theorem dX12_isReady_64 : decode cX12_isReady 64 = .ok (.iconst 1, 1) := by decide +kernel
theorem dX12_isReady_65 : decode cX12_isReady 65 = .ok (.goto 4, 3) := by decide +kernel
theorem dX12_isReady_68 : decode cX12_isReady 68 = .ok (.iconst 0, 1) := by decide +kernel
theorem dX12_isReady_69 : decode cX12_isReady 69 = .ok (.iand, 1) := by decide +kernel
theorem dX12_isReady_70 : decode cX12_isReady 70 = .ok (.istore_n 2, 1) := by decide +kernel
theorem dX12_isReady_71 : decode cX12_isReady 71 = .ok (.iinc 3 1, 3) := by decide +kernel
theorem dX12_isReady_74 : decode cX12_isReady 74 = .ok (.goto (-44), 3) := by decide +kernel
theorem dX12_isReady_77 : decode cX12_isReady 77 = .ok (.iload_n 2, 1) := by decide +kernel
theorem dX12_isReady_78 : decode cX12_isReady 78 = .ok (.ireturn, 1) := by decide +kernel
theorem dX12_turnover_0 : decode cX12_turnover 0 = .ok (.aload_n 0, 1) := by decide +kernel
theorem dX12_turnover_1 : decode cX12_turnover 1 = .ok (.iload_n 1, 1) := by decide +kernel
theorem dX12_turnover_2 : decode cX12_turnover 2 = .ok (.iconst 0, 1) := by decide +kernel
theorem dX12_turnover_3 : decode cX12_turnover 3 = .ok (.aload_n 0, 1) := by decide +kernel
theorem dX12_turnover_4 : decode cX12_turnover 4 = .ok (.getfield 10, 3) := by decide +kernel
theorem dX12_turnover_7 : decode cX12_turnover 7 = .ok (.invokeinterface 29 1, 5) := by decide +kernel
theorem dX12_turnover_12 : decode cX12_turnover 12 = .ok (.iconst 1, 1) := by decide +kernel
theorem dX12_turnover_13 : decode cX12_turnover 13 = .ok (.isub, 1) := by decide +kernel
theorem dX12_turnover_14 : decode cX12_turnover 14 = .ok (.invokestatic 35, 3) := by decide +kernel
theorem dX12_turnover_17 : decode cX12_turnover 17 = .ok (.ifCond .eq 7, 3) := by decide +kernel
theorem dX12_turnover_20 : decode cX12_turnover 20 = .ok (.iconst 0, 1) := by decide +kernel
theorem dX12_turnover_21 : decode cX12_turnover 21 = .ok (.goto 4, 3) := by decide +kernel
theorem dX12_turnover_24 : decode cX12_turnover 24 = .ok (.iconst 1, 1) := by decide +kernel
theorem dX12_turnover_25 : decode cX12_turnover 25 = .ok (.invokevirtual 59, 3) := by decide +kernel
theorem dX12_turnover_28 : decode cX12_turnover 28 = .ok (.ifCond .eq 5, 3) := by decide +kernel
theorem dX12_turnover_31 : decode cX12_turnover 31 = .ok (.iconst 0, 1) := by decide +kernel
theorem dX12_turnover_32 : decode cX12_turnover 32 = .ok (.ireturn, 1) := by decide +kernel
theorem dX12_turnover_33 : decode cX12_turnover 33 = .ok (.iconst 0, 1) := by decide +kernel
theorem dX12_turnover_34 : decode cX12_turnover 34 = .ok (.istore_n 2, 1) := by decide +kernel
theorem dX12_turnover_35 : decode cX12_turnover 35 = .ok (.iconst (-1), 1) := by decide +kernel
theorem dX12_turnover_36 : decode cX12_turnover 36 = .ok (.istore_n 3, 1) := by decide +kernel
theorem dX12_turnover_37 : decode cX12_turnover 37 = .ok (.iconst 0, 1) := by decide +kernel
theorem dX12_turnover_38 : decode cX12_turnover 38 = .ok (.istore 4, 2) := by decide +kernel
theorem dX12_turnover_40 : decode cX12_turnover 40 = .ok (.iload 4, 2) := by decide +kernel
theorem dX12_turnover_42 : decode cX12_turnover 42 = .ok (.iload_n 1, 1) := by decide +kernel
theorem dX12_turnover_43 : decode cX12_turnover 43 = .ok (.if_icmp .gt 55, 3) := by decide +kernel
theorem dX12_turnover_46 : decode cX12_turnover 46 = .ok (.iconst 0, 1) := by decide +kernel
theorem dX12_turnover_47 : decode cX12_turnover 47 = .ok (.istore_n 3, 1) := by decide +kernel
theorem dX12_turnover_48 : decode cX12_turnover 48 = .ok (.iload_n 2, 1) := by decide +kernel
theorem dX12_turnover_49 : decode cX12_turnover 49 = .ok (.iload_n 3, 1) := by decide +kernel
theorem dX12_turnover_50 : decode cX12_turnover 50 = .ok (.ishr, 1) := by decide +kernel
theorem dX12_turnover_51 : decode cX12_turnover 51 = .ok (.iconst 1, 1) := by decide +kernel
theorem dX12_turnover_52 : decode cX12_turnover 52 = .ok (.iand, 1) := by decide +kernel
theorem dX12_turnover_53 : decode cX12_turnover 53 = .ok (.iconst 1, 1) := by decide +kernel
theorem dX12_turnover_54 : decode cX12_turnover 54 = .ok (.if_icmp .eq 26, 3) := by decide +kernel
theorem dX12_turnover_57 : decode cX12_turnover 57 = .ok (.aload_n 0, 1) := by decide +kernel
theorem dX12_turnover_58 : decode cX12_turnover 58 = .ok (.getfield 10, 3) := by decide +kernel
theorem dX12_turnover_61 : decode cX12_turnover 61 = .ok (.iload_n 3, 1) := by decide +kernel
theorem dX12_turnover_62 : decode cX12_turnover 62 = .ok (.invokeinterface 43 2, 5) := by decide +kernel
theorem dX12_turnover_67 : decode cX12_turnover 67 = .ok (.checkcast 47, 3) := by decide +kernel
theorem dX12_turnover_70 : decode cX12_turnover 70 = .ok (.getfield 246, 3) := by decide +kernel
theorem dX12_turnover_73 : decode cX12_turnover 73 = .ok (.iload_n 2, 1) := by decide +kernel
theorem dX12_turnover_74 : decode cX12_turnover 74 = .ok (.iconst (-1), 1) := by decide +kernel
theorem dX12_turnover_75 : decode cX12_turnover 75 = .ok (.ixor, 1) := by decide +kernel
theorem dX12_turnover_76 : decode cX12_turnover 76 = .ok (.iand, 1) := by decide +kernel
theorem dX12_turnover_77 : decode cX12_turnover 77 = .ok (.ifCond .eq 9, 3) := by decide +kernel
theorem dX12_turnover_80 : decode cX12_turnover 80 = .ok (.iinc 3 1, 3) := by decide +kernel
theorem dX12_turnover_83 : decode cX12_turnover 83 = .ok (.goto (-35), 3) := by decide +kernel
theorem dX12_turnover_86 : decode cX12_turnover 86 = .ok (.iload_n 2, 1) := by decide +kernel
theorem dX12_turnover_87 : decode cX12_turnover 87 = .ok (.iconst 1, 1) := by decide +kernel
theorem dX12_turnover_88 : decode cX12_turnover 88 = .ok (.iload_n 3, 1) := by decide +kernel
theorem dX12_turnover_89 : decode cX12_turnover 89 = .ok (.ishl, 1) := by decide +kernel
theorem dX12_turnover_90 : decode cX12_turnover 90 = .ok (.ior, 1) := by decide +kernel
theorem dX12_turnover_91 : decode cX12_turnover 91 = .ok (.istore_n 2, 1) := by decide +kernel
theorem dX12_turnover_92 : decode cX12_turnover 92 = .ok (.iinc 4 1, 3) := by decide +kernel
theorem dX12_turnover_95 : decode cX12_turnover 95 = .ok (.goto (-55), 3) := by decide +kernel
theorem dX12_turnover_98 : decode cX12_turnover 98 = .ok (.iload_n 3, 1) := by decide +kernel
theorem dX12_turnover_99 : decode cX12_turnover 99 = .ok (.ireturn, 1) := by decide +kernel
theorem dX12_checksum_0 : decode cX12_checksum 0 = .ok (.aload_n 0, 1) := by decide +kernel
theorem dX12_checksum_1 : decode cX12_checksum 1 = .ok (.iconst 0, 1) := by decide +kernel
theorem dX12_checksum_2 : decode cX12_checksum 2 = .ok (.putfield 25, 3) := by decide +kernel
theorem dX12_checksum_5 : decode cX12_checksum 5 = .ok (.ldc2_w 255, 3) := by decide +kernel
theorem dX12_checksum_8 : decode cX12_checksum 8 = .ok (.lstore_n 1, 1) := by decide +kernel
theorem dX12_checksum_9 : decode cX12_checksum 9 = .ok (.aload_n 0, 1) := by decide +kernel
theorem dX12_checksum_10 : decode cX12_checksum 10 = .ok (.getfield 10, 3) := by decide +kernel
theorem dX12_checksum_13 : decode cX12_checksum 13 = .ok (.invokeinterface 257 1, 5) := by decide +kernel
theorem dX12_checksum_18 : decode cX12_checksum 18 = .ok (.astore_n 3, 1) := by decide +kernel
theorem dX12_checksum_19 : decode cX12_checksum 19 = .ok (.aload_n 3, 1) := by decide +kernel
theorem dX12_checksum_20 : decode cX12_checksum 20 = .ok (.invokeinterface 261 1, 5) := by decide +kernel
theorem dX12_checksum_25 : decode cX12_checksum 25 = .ok (.ifCond .eq 67, 3) := by decide +kernel
theorem dX12_checksum_28 : decode cX12_checksum 28 = .ok (.aload_n 3, 1) := by decide +kernel
theorem dX12_checksum_29 : decode cX12_checksum 29 = .ok (.invokeinterface 266 1, 5) := by decide +kernel
theorem dX12_checksum_34 : decode cX12_checksum 34 = .ok (.checkcast 47, 3) := by decide +kernel
theorem dX12_checksum_37 : decode cX12_checksum 37 = .ok (.astore 4, 2) := by decide +kernel
theorem dX12_checksum_39 : decode cX12_checksum 39 = .ok (.aload 4, 2) := by decide +kernel
theorem dX12_checksum_41 : decode cX12_checksum 41 = .ok (.getfield 52, 3) := by decide +kernel
theorem dX12_checksum_44 : decode cX12_checksum 44 = .ok (.invokeinterface 257 1, 5) := by decide +kernel
theorem dX12_checksum_49 : decode cX12_checksum 49 = .ok (.astore 5, 2) := by decide +kernel
theorem dX12_checksum_51 : decode cX12_checksum 51 = .ok (.aload 5, 2) := by decide +kernel
theorem dX12_checksum_53 : decode cX12_checksum 53 = .ok (.invokeinterface 261 1, 5) := by decide +kernel
theorem dX12_checksum_58 : decode cX12_checksum 58 = .ok (.ifCond .eq 31, 3) := by decide +kernel
theorem dX12_checksum_61 : decode cX12_checksum 61 = .ok (.aload 5, 2) := by decide +kernel
theorem dX12_checksum_63 : decode cX12_checksum 63 = .ok (.invokeinterface 266 1, 5) := by decide +kernel
theorem dX12_checksum_68 : decode cX12_checksum 68 = .ok (.checkcast 57, 3) := by decide +kernel
theorem dX12_checksum_71 : decode cX12_checksum 71 = .ok (.astore 6, 2) := by decide +kernel
theorem dX12_checksum_73 : decode cX12_checksum 73 = .ok (.ldc2_w 270, 3) := by decide +kernel
theorem dX12_checksum_76 : decode cX12_checksum 76 = .ok (.lload_n 1, 1) := by decide +kernel
theorem dX12_checksum_77 : decode cX12_checksum 77 = .ok (.lmul, 1) := by decide +kernel
theorem dX12_checksum_78 : decode cX12_checksum 78 = .ok (.aload 6, 2) := by decide +kernel
theorem dX12_checksum_80 : decode cX12_checksum 80 = .ok (.getfield 85, 3) := by decide +kernel
theorem dX12_checksum_83 : decode cX12_checksum 83 = .ok (.i2l, 1) := by decide +kernel
theorem dX12_checksum_84 : decode cX12_checksum 84 = .ok (.ladd, 1) := by decide +kernel
theorem dX12_checksum_85 : decode cX12_checksum 85 = .ok (.lstore_n 1, 1) := by decide +kernel
theorem dX12_checksum_86 : decode cX12_checksum 86 = .ok (.goto (-35), 3) := by decide +kernel
theorem dX12_checksum_89 : decode cX12_checksum 89 = .ok (.goto (-70), 3) := by decide +kernel
theorem dX12_checksum_92 : decode cX12_checksum 92 = .ok (.aload_n 0, 1) := by decide +kernel
theorem dX12_checksum_93 : decode cX12_checksum 93 = .ok (.getfield 16, 3) := by decide +kernel
theorem dX12_checksum_96 : decode cX12_checksum 96 = .ok (.invokeinterface 257 1, 5) := by decide +kernel
theorem dX12_checksum_101 : decode cX12_checksum 101 = .ok (.astore_n 3, 1) := by decide +kernel
theorem dX12_checksum_102 : decode cX12_checksum 102 = .ok (.aload_n 3, 1) := by decide +kernel
theorem dX12_checksum_103 : decode cX12_checksum 103 = .ok (.invokeinterface 261 1, 5) := by decide +kernel
theorem dX12_checksum_108 : decode cX12_checksum 108 = .ok (.ifCond .eq 30, 3) := by decide +kernel
theorem dX12_checksum_111 : decode cX12_checksum 111 = .ok (.aload_n 3, 1) := by decide +kernel
theorem dX12_checksum_112 : decode cX12_checksum 112 = .ok (.invokeinterface 266 1, 5) := by decide +kernel
theorem dX12_checksum_117 : decode cX12_checksum 117 = .ok (.checkcast 99, 3) := by decide +kernel
theorem dX12_checksum_120 : decode cX12_checksum 120 = .ok (.astore 4, 2) := by decide +kernel
theorem dX12_checksum_122 : decode cX12_checksum 122 = .ok (.ldc2_w 270, 3) := by decide +kernel
theorem dX12_checksum_125 : decode cX12_checksum 125 = .ok (.lload_n 1, 1) := by decide +kernel
theorem dX12_checksum_126 : decode cX12_checksum 126 = .ok (.lmul, 1) := by decide +kernel
theorem dX12_checksum_127 : decode cX12_checksum 127 = .ok (.aload 4, 2) := by decide +kernel
theorem dX12_checksum_129 : decode cX12_checksum 129 = .ok (.getfield 101, 3) := by decide +kernel
theorem dX12_checksum_132 : decode cX12_checksum 132 = .ok (.i2l, 1) := by decide +kernel
theorem dX12_checksum_133 : decode cX12_checksum 133 = .ok (.ladd, 1) := by decide +kernel
theorem dX12_checksum_134 : decode cX12_checksum 134 = .ok (.lstore_n 1, 1) := by decide +kernel
theorem dX12_checksum_135 : decode cX12_checksum 135 = .ok (.goto (-33), 3) := by decide +kernel
theorem dX12_checksum_138 : decode cX12_checksum 138 = .ok (.ldc2_w 270, 3) := by decide +kernel
theorem dX12_checksum_141 : decode cX12_checksum 141 = .ok (.ldc2_w 270, 3) := by decide +kernel
theorem dX12_checksum_144 : decode cX12_checksum 144 = .ok (.lload_n 1, 1) := by decide +kernel
theorem dX12_checksum_145 : decode cX12_checksum 145 = .ok (.lmul, 1) := by decide +kernel
theorem dX12_checksum_146 : decode cX12_checksum 146 = .ok (.aload_n 0, 1) := by decide +kernel
theorem dX12_checksum_147 : decode cX12_checksum 147 = .ok (.getfield 93, 3) := by decide +kernel
theorem dX12_checksum_150 : decode cX12_checksum 150 = .ok (.i2l, 1) := by decide +kernel
theorem dX12_checksum_151 : decode cX12_checksum 151 = .ok (.ladd, 1) := by decide +kernel
theorem dX12_checksum_152 : decode cX12_checksum 152 = .ok (.lmul, 1) := by decide +kernel
theorem dX12_checksum_153 : decode cX12_checksum 153 = .ok (.aload_n 0, 1) := by decide +kernel
theorem dX12_checksum_154 : decode cX12_checksum 154 = .ok (.getfield 164, 3) := by decide +kernel
theorem dX12_checksum_157 : decode cX12_checksum 157 = .ok (.i2l, 1) := by decide +kernel
theorem dX12_checksum_158 : decode cX12_checksum 158 = .ok (.ladd, 1) := by decide +kernel
theorem dX12_checksum_159 : decode cX12_checksum 159 = .ok (.lreturn, 1) := by decide +kernel
theorem dX12_doneShare_0 : decode cX12_doneShare 0 = .ok (.iconst 0, 1) := by decide +kernel
theorem dX12_doneShare_1 : decode cX12_doneShare 1 = .ok (.istore_n 1, 1) := by decide +kernel
theorem dX12_doneShare_2 : decode cX12_doneShare 2 = .ok (.aload_n 0, 1) := by decide +kernel
theorem dX12_doneShare_3 : decode cX12_doneShare 3 = .ok (.getfield 10, 3) := by decide +kernel
theorem dX12_doneShare_6 : decode cX12_doneShare 6 = .ok (.invokeinterface 257 1, 5) := by decide +kernel
theorem dX12_doneShare_11 : decode cX12_doneShare 11 = .ok (.astore_n 2, 1) := by decide +kernel
theorem dX12_doneShare_12 : decode cX12_doneShare 12 = .ok (.aload_n 2, 1) := by decide +kernel
theorem dX12_doneShare_13 : decode cX12_doneShare 13 = .ok (.invokeinterface 261 1, 5) := by decide +kernel
theorem dX12_doneShare_18 : decode cX12_doneShare 18 = .ok (.ifCond .eq 28, 3) := by decide +kernel
theorem dX12_doneShare_21 : decode cX12_doneShare 21 = .ok (.aload_n 2, 1) := by decide +kernel
theorem dX12_doneShare_22 : decode cX12_doneShare 22 = .ok (.invokeinterface 266 1, 5) := by decide +kernel
theorem dX12_doneShare_27 : decode cX12_doneShare 27 = .ok (.checkcast 47, 3) := by decide +kernel
theorem dX12_doneShare_30 : decode cX12_doneShare 30 = .ok (.astore_n 3, 1) := by decide +kernel
theorem dX12_doneShare_31 : decode cX12_doneShare 31 = .ok (.iload_n 1, 1) := by decide +kernel
theorem dX12_doneShare_32 : decode cX12_doneShare 32 = .ok (.aload_n 3, 1) := by decide +kernel
theorem dX12_doneShare_33 : decode cX12_doneShare 33 = .ok (.getfield 52, 3) := by decide +kernel
theorem dX12_doneShare_36 : decode cX12_doneShare 36 = .ok (.invokeinterface 29 1, 5) := by decide +kernel
theorem dX12_doneShare_41 : decode cX12_doneShare 41 = .ok (.iadd, 1) := by decide +kernel
theorem dX12_doneShare_42 : decode cX12_doneShare 42 = .ok (.istore_n 1, 1) := by decide +kernel
theorem dX12_doneShare_43 : decode cX12_doneShare 43 = .ok (.goto (-31), 3) := by decide +kernel
theorem dX12_doneShare_46 : decode cX12_doneShare 46 = .ok (.aload_n 0, 1) := by decide +kernel
theorem dX12_doneShare_47 : decode cX12_doneShare 47 = .ok (.iload_n 1, 1) := by decide +kernel
theorem dX12_doneShare_48 : decode cX12_doneShare 48 = .ok (.ifCond .ne 7, 3) := by decide +kernel
theorem dX12_doneShare_51 : decode cX12_doneShare 51 = .ok (.iconst 1, 1) := by decide +kernel
theorem dX12_doneShare_52 : decode cX12_doneShare 52 = .ok (.goto 4, 3) := by decide +kernel
theorem dX12_doneShare_55 : decode cX12_doneShare 55 = .ok (.iconst 0, 1) := by decide +kernel
theorem dX12_doneShare_56 : decode cX12_doneShare 56 = .ok (.invokevirtual 59, 3) := by decide +kernel
theorem dX12_doneShare_59 : decode cX12_doneShare 59 = .ok (.ifCond .eq 7, 3) := by decide +kernel
theorem dX12_doneShare_62 : decode cX12_doneShare 62 = .ok (.fconst 0, 1) := by decide +kernel
theorem dX12_doneShare_63 : decode cX12_doneShare 63 = .ok (.goto 13, 3) := by decide +kernel
theorem dX12_doneShare_66 : decode cX12_doneShare 66 = .ok (.aload_n 0, 1) := by decide +kernel
theorem dX12_doneShare_67 : decode cX12_doneShare 67 = .ok (.bipush 45, 2) := by decide +kernel
theorem dX12_doneShare_69 : decode cX12_doneShare 69 = .ok (.invokevirtual 243, 3) := by decide +kernel
theorem dX12_doneShare_72 : decode cX12_doneShare 72 = .ok (.i2f, 1) := by decide +kernel
theorem dX12_doneShare_73 : decode cX12_doneShare 73 = .ok (.iload_n 1, 1) := by decide +kernel
theorem dX12_doneShare_74 : decode cX12_doneShare 74 = .ok (.i2f, 1) := by decide +kernel
theorem dX12_doneShare_75 : decode cX12_doneShare 75 = .ok (.fdiv, 1) := by decide +kernel
theorem dX12_doneShare_76 : decode cX12_doneShare 76 = .ok (.freturn, 1) := by decide +kernel
theorem dX12_meanSpool_0 : decode cX12_meanSpool 0 = .ok (.aload_n 0, 1) := by decide +kernel
theorem dX12_meanSpool_1 : decode cX12_meanSpool 1 = .ok (.aload_n 0, 1) := by decide +kernel
theorem dX12_meanSpool_2 : decode cX12_meanSpool 2 = .ok (.iload_n 1, 1) := by decide +kernel
theorem dX12_meanSpool_3 : decode cX12_meanSpool 3 = .ok (.invokevirtual 39, 3) := by decide +kernel
theorem dX12_meanSpool_6 : decode cX12_meanSpool 6 = .ok (.ifCond .ne 7, 3) := by decide +kernel
theorem dX12_meanSpool_9 : decode cX12_meanSpool 9 = .ok (.iconst 1, 1) := by decide +kernel
theorem dX12_meanSpool_10 : decode cX12_meanSpool 10 = .ok (.goto 32, 3) := by decide +kernel
theorem dX12_meanSpool_13 : decode cX12_meanSpool 13 = .ok (.aload_n 0, 1) := by decide +kernel
theorem dX12_meanSpool_14 : decode cX12_meanSpool 14 = .ok (.getfield 10, 3) := by decide +kernel
theorem dX12_meanSpool_17 : decode cX12_meanSpool 17 = .ok (.iload_n 1, 1) := by decide +kernel
theorem dX12_meanSpool_18 : decode cX12_meanSpool 18 = .ok (.invokeinterface 43 2, 5) := by decide +kernel
theorem dX12_meanSpool_23 : decode cX12_meanSpool 23 = .ok (.checkcast 47, 3) := by decide +kernel
theorem dX12_meanSpool_26 : decode cX12_meanSpool 26 = .ok (.getfield 49, 3) := by decide +kernel
theorem dX12_meanSpool_29 : decode cX12_meanSpool 29 = .ok (.invokeinterface 272 1, 5) := by decide +kernel
theorem dX12_meanSpool_34 : decode cX12_meanSpool 34 = .ok (.ifCond .eq 7, 3) := by decide +kernel
theorem dX12_meanSpool_37 : decode cX12_meanSpool 37 = .ok (.iconst 2, 1) := by decide +kernel
theorem dX12_meanSpool_38 : decode cX12_meanSpool 38 = .ok (.goto 4, 3) := by decide +kernel
theorem dX12_meanSpool_41 : decode cX12_meanSpool 41 = .ok (.iconst 0, 1) := by decide +kernel
theorem dX12_meanSpool_42 : decode cX12_meanSpool 42 = .ok (.invokevirtual 59, 3) := by decide +kernel
theorem dX12_meanSpool_45 : decode cX12_meanSpool 45 = .ok (.ifCond .eq 7, 3) := by decide +kernel
theorem dX12_meanSpool_48 : decode cX12_meanSpool 48 = .ok (.dconst 0, 1) := by decide +kernel
theorem dX12_meanSpool_49 : decode cX12_meanSpool 49 = .ok (.goto 38, 3) := by decide +kernel
theorem dX12_meanSpool_52 : decode cX12_meanSpool 52 = .ok (.aload_n 0, 1) := by decide +kernel
theorem dX12_meanSpool_53 : decode cX12_meanSpool 53 = .ok (.getfield 10, 3) := by decide +kernel
theorem dX12_meanSpool_56 : decode cX12_meanSpool 56 = .ok (.iload_n 1, 1) := by decide +kernel
theorem dX12_meanSpool_57 : decode cX12_meanSpool 57 = .ok (.invokeinterface 43 2, 5) := by decide +kernel
theorem dX12_meanSpool_62 : decode cX12_meanSpool 62 = .ok (.checkcast 47, 3) := by decide +kernel
theorem dX12_meanSpool_65 : decode cX12_meanSpool 65 = .ok (.invokevirtual 125, 3) := by decide +kernel
theorem dX12_meanSpool_68 : decode cX12_meanSpool 68 = .ok (.i2d, 1) := by decide +kernel
theorem dX12_meanSpool_69 : decode cX12_meanSpool 69 = .ok (.aload_n 0, 1) := by decide +kernel
theorem dX12_meanSpool_70 : decode cX12_meanSpool 70 = .ok (.getfield 10, 3) := by decide +kernel
theorem dX12_meanSpool_73 : decode cX12_meanSpool 73 = .ok (.iload_n 1, 1) := by decide +kernel
theorem dX12_meanSpool_74 : decode cX12_meanSpool 74 = .ok (.invokeinterface 43 2, 5) := by decide +kernel
theorem dX12_meanSpool_79 : decode cX12_meanSpool 79 = .ok (.checkcast 47, 3) := by decide +kernel
theorem dX12_meanSpool_82 : decode cX12_meanSpool 82 = .ok (.invokevirtual 127, 3) := by decide +kernel
theorem dX12_meanSpool_85 : decode cX12_meanSpool 85 = .ok (.i2d, 1) := by decide +kernel
theorem dX12_meanSpool_86 : decode cX12_meanSpool 86 = .ok (.ddiv, 1) := by decide +kernel
theorem dX12_meanSpool_87 : decode cX12_meanSpool 87 = .ok (.dreturn, 1) := by decide +kernel
theorem dX12_isSound_0 : decode cX12_isSound 0 = .ok (.aload_n 0, 1) := by decide +kernel
theorem dX12_isSound_1 : decode cX12_isSound 1 = .ok (.iconst 0, 1) := by decide +kernel
theorem dX12_isSound_2 : decode cX12_isSound 2 = .ok (.putfield 25, 3) := by decide +kernel
theorem dX12_isSound_5 : decode cX12_isSound 5 = .ok (.iconst 1, 1) := by decide +kernel
theorem dX12_isSound_6 : decode cX12_isSound 6 = .ok (.ireturn, 1) := by decide +kernel
theorem dJx00060_init_a7421_0 : decode cJx00060_init_a7421 0 = .ok (.aload_n 0, 1) := by decide +kernel
theorem dJx00060_init_a7421_1 : decode cJx00060_init_a7421 1 = .ok (.aload_n 1, 1) := by decide +kernel
theorem dJx00060_init_a7421_2 : decode cJx00060_init_a7421 2 = .ok (.invokespecial 7, 3) := by decide +kernel
theorem dJx00060_init_a7421_5 : decode cJx00060_init_a7421 5 = .ok (.return_, 1) := by decide +kernel
theorem dJ11_isValidCodePoint_9a6ad_0 : decode cJ11_isValidCodePoint_9a6ad 0 = .ok (.iload_n 0, 1) := by decide +kernel
theorem dJ11_isValidCodePoint_9a6ad_1 : decode cJ11_isValidCodePoint_9a6ad 1 = .ok (.bipush 16, 2) := by decide +kernel
theorem dJ11_isValidCodePoint_9a6ad_3 : decode cJ11_isValidCodePoint_9a6ad 3 = .ok (.iushr, 1) := by decide +kernel
theorem dJ11_isValidCodePoint_9a6ad_4 : decode cJ11_isValidCodePoint_9a6ad 4 = .ok (.istore_n 1, 1) := by decide +kernel
theorem dJ11_isValidCodePoint_9a6ad_5 : decode cJ11_isValidCodePoint_9a6ad 5 = .ok (.iload_n 1, 1) := by decide +kernel
theorem dJ11_isValidCodePoint_9a6ad_6 : decode cJ11_isValidCodePoint_9a6ad 6 = .ok (.bipush 17, 2) := by decide +kernel
theorem dJ11_isValidCodePoint_9a6ad_8 : decode cJ11_isValidCodePoint_9a6ad 8 = .ok (.if_icmp .ge 7, 3) := by decide +kernel
theorem dJ11_isValidCodePoint_9a6ad_11 : decode cJ11_isValidCodePoint_9a6ad 11 = .ok (.iconst 1, 1) := by decide +kernel
theorem dJ11_isValidCodePoint_9a6ad_12 : decode cJ11_isValidCodePoint_9a6ad 12 = .ok (.goto 4, 3) := by decide +kernel
theorem dJ11_isValidCodePoint_9a6ad_15 : decode cJ11_isValidCodePoint_9a6ad 15 = .ok (.iconst 0, 1) := by decide +kernel
theorem dJ11_isValidCodePoint_9a6ad_16 : decode cJ11_isValidCodePoint_9a6ad 16 = .ok (.ireturn, 1) := by decide +kernel
theorem dJ11_highSurrogate_5068e_0 : decode cJ11_highSurrogate_5068e 0 = .ok (.iload_n 0, 1) := by decide +kernel
theorem dJ11_highSurrogate_5068e_1 : decode cJ11_highSurrogate_5068e 1 = .ok (.bipush 10, 2) := by decide +kernel
theorem dJ11_highSurrogate_5068e_3 : decode cJ11_highSurrogate_5068e 3 = .ok (.iushr, 1) := by decide +kernel
theorem dJ11_highSurrogate_5068e_4 : decode cJ11_highSurrogate_5068e 4 = .ok (.ldc 110, 2) := by decide +kernel
theorem dJ11_highSurrogate_5068e_6 : decode cJ11_highSurrogate_5068e 6 = .ok (.iadd, 1) := by decide +kernel
theorem dJ11_highSurrogate_5068e_7 : decode cJ11_highSurrogate_5068e 7 = .ok (.i2c, 1) := by decide +kernel
theorem dJ11_highSurrogate_5068e_8 : decode cJ11_highSurrogate_5068e 8 = .ok (.ireturn, 1) := by decide +kernel
theorem dJ11_lowSurrogate_5068e_0 : decode cJ11_lowSurrogate_5068e 0 = .ok (.iload_n 0, 1) := by decide +kernel
theorem dJ11_lowSurrogate_5068e_1 : decode cJ11_lowSurrogate_5068e 1 = .ok (.sipush 1023, 3) := by decide +kernel
theorem dJ11_lowSurrogate_5068e_4 : decode cJ11_lowSurrogate_5068e 4 = .ok (.iand, 1) := by decide +kernel
theorem dJ11_lowSurrogate_5068e_5 : decode cJ11_lowSurrogate_5068e 5 = .ok (.ldc 76, 2) := by decide +kernel
theorem dJ11_lowSurrogate_5068e_7 : decode cJ11_lowSurrogate_5068e 7 = .ok (.iadd, 1) := by decide +kernel
theorem dJ11_lowSurrogate_5068e_8 : decode cJ11_lowSurrogate_5068e 8 = .ok (.i2c, 1) := by decide +kernel
theorem dJ11_lowSurrogate_5068e_9 : decode cJ11_lowSurrogate_5068e 9 = .ok (.ireturn, 1) := by decide +kernel
theorem dJ6_valueOf_2dffe_0 : decode cJ6_valueOf_2dffe 0 = .ok (.iload_n 0, 1) := by decide +kernel
theorem dJ6_valueOf_2dffe_1 : decode cJ6_valueOf_2dffe 1 = .ok (.bipush (-128), 2) := by decide +kernel
theorem dJ6_valueOf_2dffe_3 : decode cJ6_valueOf_2dffe 3 = .ok (.if_icmp .lt 20, 3) := by decide +kernel
theorem dJ6_valueOf_2dffe_6 : decode cJ6_valueOf_2dffe 6 = .ok (.iload_n 0, 1) := by decide +kernel
theorem dJ6_valueOf_2dffe_7 : decode cJ6_valueOf_2dffe 7 = .ok (.getstatic 191, 3) := by decide +kernel
theorem dJ6_valueOf_2dffe_10 : decode cJ6_valueOf_2dffe 10 = .ok (.if_icmp .gt 13, 3) := by decide +kernel
theorem dJ6_valueOf_2dffe_13 : decode cJ6_valueOf_2dffe 13 = .ok (.getstatic 195, 3) := by decide +kernel
theorem dJ6_valueOf_2dffe_16 : decode cJ6_valueOf_2dffe 16 = .ok (.iload_n 0, 1) := by decide +kernel
theorem dJ6_valueOf_2dffe_17 : decode cJ6_valueOf_2dffe 17 = .ok (.sipush 128, 3) := by decide +kernel
theorem dJ6_valueOf_2dffe_20 : decode cJ6_valueOf_2dffe 20 = .ok (.iadd, 1) := by decide +kernel
theorem dJ6_valueOf_2dffe_21 : decode cJ6_valueOf_2dffe 21 = .ok (.aaload, 1) := by decide +kernel
theorem dJ6_valueOf_2dffe_22 : decode cJ6_valueOf_2dffe 22 = .ok (.areturn, 1) := by decide +kernel
theorem dJ6_valueOf_2dffe_23 : decode cJ6_valueOf_2dffe 23 = .ok (.new 1, 3) := by decide +kernel
theorem dJ6_valueOf_2dffe_26 : decode cJ6_valueOf_2dffe 26 = .ok (.dup, 1) := by decide +kernel
theorem dJ6_valueOf_2dffe_27 : decode cJ6_valueOf_2dffe 27 = .ok (.iload_n 0, 1) := by decide +kernel
theorem dJ6_valueOf_2dffe_28 : decode cJ6_valueOf_2dffe 28 = .ok (.invokespecial 199, 3) := by decide +kernel
theorem dJ6_valueOf_2dffe_31 : decode cJ6_valueOf_2dffe 31 = .ok (.areturn, 1) := by decide +kernel
theorem dJ6_init_d00df_0 : decode cJ6_init_d00df 0 = .ok (.aload_n 0, 1) := by decide +kernel
theorem dJ6_init_d00df_1 : decode cJ6_init_d00df 1 = .ok (.invokespecial 202, 3) := by decide +kernel
theorem dJ6_init_d00df_4 : decode cJ6_init_d00df 4 = .ok (.aload_n 0, 1) := by decide +kernel
theorem dJ6_init_d00df_5 : decode cJ6_init_d00df 5 = .ok (.iload_n 1, 1) := by decide +kernel
theorem dJ6_init_d00df_6 : decode cJ6_init_d00df 6 = .ok (.putfield 205, 3) := by decide +kernel
theorem dJ6_init_d00df_9 : decode cJ6_init_d00df 9 = .ok (.return_, 1) := by decide +kernel
theorem dJ6_intValue_8abf5_0 : decode cJ6_intValue_8abf5 0 = .ok (.aload_n 0, 1) := by decide +kernel
theorem dJ6_intValue_8abf5_1 : decode cJ6_intValue_8abf5 1 = .ok (.getfield 205, 3) := by decide +kernel
theorem dJ6_intValue_8abf5_4 : decode cJ6_intValue_8abf5 4 = .ok (.ireturn, 1) := by decide +kernel
theorem dJ9_max_7cf53_0 : decode cJ9_max_7cf53 0 = .ok (.iload_n 0, 1) := by decide +kernel
theorem dJ9_max_7cf53_1 : decode cJ9_max_7cf53 1 = .ok (.iload_n 1, 1) := by decide +kernel
theorem dJ9_max_7cf53_2 : decode cJ9_max_7cf53 2 = .ok (.if_icmp .lt 7, 3) := by decide +kernel
theorem dJ9_max_7cf53_5 : decode cJ9_max_7cf53 5 = .ok (.iload_n 0, 1) := by decide +kernel
theorem dJ9_max_7cf53_6 : decode cJ9_max_7cf53 6 = .ok (.goto 4, 3) := by decide +kernel
theorem dJ9_max_7cf53_9 : decode cJ9_max_7cf53 9 = .ok (.iload_n 1, 1) := by decide +kernel
theorem dJ9_max_7cf53_10 : decode cJ9_max_7cf53 10 = .ok (.ireturn, 1) := by decide +kernel
theorem dJ9_min_7cf53_0 : decode cJ9_min_7cf53 0 = .ok (.iload_n 0, 1) := by decide +kernel
theorem dJ9_min_7cf53_1 : decode cJ9_min_7cf53 1 = .ok (.iload_n 1, 1) := by decide +kernel
theorem dJ9_min_7cf53_2 : decode cJ9_min_7cf53 2 = .ok (.if_icmp .gt 7, 3) := by decide +kernel
theorem dJ9_min_7cf53_5 : decode cJ9_min_7cf53 5 = .ok (.iload_n 0, 1) := by decide +kernel
theorem dJ9_min_7cf53_6 : decode cJ9_min_7cf53 6 = .ok (.goto 4, 3) := by decide +kernel
theorem dJ9_min_7cf53_9 : decode cJ9_min_7cf53 9 = .ok (.iload_n 1, 1) := by decide +kernel
theorem dJ9_min_7cf53_10 : decode cJ9_min_7cf53 10 = .ok (.ireturn, 1) := by decide +kernel
theorem dJxd2413_init_da8c8_0 : decode cJxd2413_init_da8c8 0 = .ok (.aload_n 0, 1) := by decide +kernel
theorem dJxd2413_init_da8c8_1 : decode cJxd2413_init_da8c8 1 = .ok (.invokespecial 1, 3) := by decide +kernel
theorem dJxd2413_init_da8c8_4 : decode cJxd2413_init_da8c8 4 = .ok (.return_, 1) := by decide +kernel
theorem dJ0_length_8abf5_0 : decode cJ0_length_8abf5 0 = .ok (.aload_n 0, 1) := by decide +kernel
theorem dJ0_length_8abf5_1 : decode cJ0_length_8abf5 1 = .ok (.getfield 9, 3) := by decide +kernel
theorem dJ0_length_8abf5_4 : decode cJ0_length_8abf5 4 = .ok (.arraylength, 1) := by decide +kernel
theorem dJ0_length_8abf5_5 : decode cJ0_length_8abf5 5 = .ok (.aload_n 0, 1) := by decide +kernel
theorem dJ0_length_8abf5_6 : decode cJ0_length_8abf5 6 = .ok (.invokevirtual 335, 3) := by decide +kernel
theorem dJ0_length_8abf5_9 : decode cJ0_length_8abf5 9 = .ok (.ishr, 1) := by decide +kernel
theorem dJ0_length_8abf5_10 : decode cJ0_length_8abf5 10 = .ok (.ireturn, 1) := by decide +kernel
theorem dJ0_indexOf_0f7a4_0 : decode cJ0_indexOf_0f7a4 0 = .ok (.aload_n 0, 1) := by decide +kernel
theorem dJ0_indexOf_0f7a4_1 : decode cJ0_indexOf_0f7a4 1 = .ok (.iload_n 1, 1) := by decide +kernel
theorem dJ0_indexOf_0f7a4_2 : decode cJ0_indexOf_0f7a4 2 = .ok (.iconst 0, 1) := by decide +kernel
theorem dJ0_indexOf_0f7a4_3 : decode cJ0_indexOf_0f7a4 3 = .ok (.invokevirtual 633, 3) := by decide +kernel
theorem dJ0_indexOf_0f7a4_6 : decode cJ0_indexOf_0f7a4 6 = .ok (.ireturn, 1) := by decide +kernel
theorem dJ0_indexOf_7cf53_0 : decode cJ0_indexOf_7cf53 0 = .ok (.aload_n 0, 1) := by decide +kernel
theorem dJ0_indexOf_7cf53_1 : decode cJ0_indexOf_7cf53 1 = .ok (.invokevirtual 492, 3) := by decide +kernel
theorem dJ0_indexOf_7cf53_4 : decode cJ0_indexOf_7cf53 4 = .ok (.ifCond .eq 19, 3) := by decide +kernel
theorem dJ0_indexOf_7cf53_7 : decode cJ0_indexOf_7cf53 7 = .ok (.aload_n 0, 1) := by decide +kernel
theorem dJ0_indexOf_7cf53_8 : decode cJ0_indexOf_7cf53 8 = .ok (.getfield 9, 3) := by decide +kernel
theorem dJ0_indexOf_7cf53_11 : decode cJ0_indexOf_7cf53 11 = .ok (.iload_n 1, 1) := by decide +kernel
theorem dJ0_indexOf_7cf53_12 : decode cJ0_indexOf_7cf53 12 = .ok (.iload_n 2, 1) := by decide +kernel
theorem dJ0_indexOf_7cf53_13 : decode cJ0_indexOf_7cf53 13 = .ok (.aload_n 0, 1) := by decide +kernel
theorem dJ0_indexOf_7cf53_14 : decode cJ0_indexOf_7cf53 14 = .ok (.invokevirtual 505, 3) := by decide +kernel
theorem dJ0_indexOf_7cf53_17 : decode cJ0_indexOf_7cf53 17 = .ok (.invokestatic 637, 3) := by decide +kernel
theorem dJ0_indexOf_7cf53_20 : decode cJ0_indexOf_7cf53 20 = .ok (.goto 16, 3) := by decide +kernel
theorem dJ0_indexOf_7cf53_23 : decode cJ0_indexOf_7cf53 23 = .ok (.aload_n 0, 1) := by decide +kernel
theorem dJ0_indexOf_7cf53_24 : decode cJ0_indexOf_7cf53 24 = .ok (.getfield 9, 3) := by decide +kernel
theorem dJ0_indexOf_7cf53_27 : decode cJ0_indexOf_7cf53 27 = .ok (.iload_n 1, 1) := by decide +kernel
theorem dJ0_indexOf_7cf53_28 : decode cJ0_indexOf_7cf53 28 = .ok (.iload_n 2, 1) := by decide +kernel
theorem dJ0_indexOf_7cf53_29 : decode cJ0_indexOf_7cf53 29 = .ok (.aload_n 0, 1) := by decide +kernel
theorem dJ0_indexOf_7cf53_30 : decode cJ0_indexOf_7cf53 30 = .ok (.invokevirtual 505, 3) := by decide +kernel
theorem dJ0_indexOf_7cf53_33 : decode cJ0_indexOf_7cf53 33 = .ok (.invokestatic 640, 3) := by decide +kernel
theorem dJ0_indexOf_7cf53_36 : decode cJ0_indexOf_7cf53 36 = .ok (.ireturn, 1) := by decide +kernel
theorem dJ0_coder_7d493_0 : decode cJ0_coder_7d493 0 = .ok (.getstatic 38, 3) := by decide +kernel
theorem dJ0_coder_7d493_3 : decode cJ0_coder_7d493 3 = .ok (.ifCond .eq 10, 3) := by decide +kernel
theorem dJ0_coder_7d493_6 : decode cJ0_coder_7d493 6 = .ok (.aload_n 0, 1) := by decide +kernel
theorem dJ0_coder_7d493_7 : decode cJ0_coder_7d493 7 = .ok (.getfield 15, 3) := by decide +kernel
theorem dJ0_coder_7d493_10 : decode cJ0_coder_7d493 10 = .ok (.goto 4, 3) := by decide +kernel
theorem dJ0_coder_7d493_13 : decode cJ0_coder_7d493 13 = .ok (.iconst 1, 1) := by decide +kernel
theorem dJ0_coder_7d493_14 : decode cJ0_coder_7d493 14 = .ok (.ireturn, 1) := by decide +kernel
theorem dJ0_isLatin1_aae02_0 : decode cJ0_isLatin1_aae02 0 = .ok (.getstatic 38, 3) := by decide +kernel
theorem dJ0_isLatin1_aae02_3 : decode cJ0_isLatin1_aae02 3 = .ok (.ifCond .eq 14, 3) := by decide +kernel
theorem dJ0_isLatin1_aae02_6 : decode cJ0_isLatin1_aae02 6 = .ok (.aload_n 0, 1) := by decide +kernel
theorem dJ0_isLatin1_aae02_7 : decode cJ0_isLatin1_aae02 7 = .ok (.getfield 15, 3) := by decide +kernel
theorem dJ0_isLatin1_aae02_10 : decode cJ0_isLatin1_aae02 10 = .ok (.ifCond .ne 7, 3) := by decide +kernel
theorem dJ0_isLatin1_aae02_13 : decode cJ0_isLatin1_aae02 13 = .ok (.iconst 1, 1) := by decide +kernel
theorem dJ0_isLatin1_aae02_14 : decode cJ0_isLatin1_aae02 14 = .ok (.goto 4, 3) := by decide +kernel
theorem dJ0_isLatin1_aae02_17 : decode cJ0_isLatin1_aae02 17 = .ok (.iconst 0, 1) := by decide +kernel
theorem dJ0_isLatin1_aae02_18 : decode cJ0_isLatin1_aae02 18 = .ok (.ireturn, 1) := by decide +kernel
theorem dJ0_checkBoundsBeginEnd_23922_0 : decode cJ0_checkBoundsBeginEnd_23922 0 = .ok (.iload_n 0, 1) := by decide +kernel
theorem dJ0_checkBoundsBeginEnd_23922_1 : decode cJ0_checkBoundsBeginEnd_23922 1 = .ok (.iload_n 1, 1) := by decide +kernel
theorem dJ0_checkBoundsBeginEnd_23922_2 : decode cJ0_checkBoundsBeginEnd_23922 2 = .ok (.iload_n 2, 1) := by decide +kernel
theorem dJ0_checkBoundsBeginEnd_23922_3 : decode cJ0_checkBoundsBeginEnd_23922 3 = .ok (.getstatic 1053, 3) := by decide +kernel
theorem dJ0_checkBoundsBeginEnd_23922_6 : decode cJ0_checkBoundsBeginEnd_23922 6 = .ok (.invokestatic 1062, 3) := by decide +kernel
theorem dJ0_checkBoundsBeginEnd_23922_9 : decode cJ0_checkBoundsBeginEnd_23922 9 = .ok (.pop, 1) := by decide +kernel
theorem dJ0_checkBoundsBeginEnd_23922_10 : decode cJ0_checkBoundsBeginEnd_23922 10 = .ok (.return_, 1) := by decide +kernel
theorem dJ1_canEncode_9a6ad_0 : decode cJ1_canEncode_9a6ad 0 = .ok (.iload_n 0, 1) := by decide +kernel
theorem dJ1_canEncode_9a6ad_1 : decode cJ1_canEncode_9a6ad 1 = .ok (.ifCond .lt 14, 3) := by decide +kernel
theorem dJ1_canEncode_9a6ad_4 : decode cJ1_canEncode_9a6ad 4 = .ok (.iload_n 0, 1) := by decide +kernel
theorem dJ1_canEncode_9a6ad_5 : decode cJ1_canEncode_9a6ad 5 = .ok (.sipush 255, 3) := by decide +kernel
theorem dJ1_canEncode_9a6ad_8 : decode cJ1_canEncode_9a6ad 8 = .ok (.if_icmp .gt 7, 3) := by decide +kernel
theorem dJ1_canEncode_9a6ad_11 : decode cJ1_canEncode_9a6ad 11 = .ok (.iconst 1, 1) := by decide +kernel
theorem dJ1_canEncode_9a6ad_12 : decode cJ1_canEncode_9a6ad 12 = .ok (.goto 4, 3) := by decide +kernel
theorem dJ1_canEncode_9a6ad_15 : decode cJ1_canEncode_9a6ad 15 = .ok (.iconst 0, 1) := by decide +kernel
theorem dJ1_canEncode_9a6ad_16 : decode cJ1_canEncode_9a6ad 16 = .ok (.ireturn, 1) := by decide +kernel
theorem dJ1_indexOf_4cfef_0 : decode cJ1_indexOf_4cfef 0 = .ok (.iload_n 1, 1) := by decide +kernel
theorem dJ1_indexOf_4cfef_1 : decode cJ1_indexOf_4cfef 1 = .ok (.invokestatic 88, 3) := by decide +kernel
theorem dJ1_indexOf_4cfef_4 : decode cJ1_indexOf_4cfef 4 = .ok (.ifCond .ne 5, 3) := by decide +kernel
theorem dJ1_indexOf_4cfef_7 : decode cJ1_indexOf_4cfef 7 = .ok (.iconst (-1), 1) := by decide +kernel
theorem dJ1_indexOf_4cfef_8 : decode cJ1_indexOf_4cfef 8 = .ok (.ireturn, 1) := by decide +kernel
theorem dJ1_indexOf_4cfef_9 : decode cJ1_indexOf_4cfef 9 = .ok (.iload_n 2, 1) := by decide +kernel
theorem dJ1_indexOf_4cfef_10 : decode cJ1_indexOf_4cfef 10 = .ok (.iconst 0, 1) := by decide +kernel
theorem dJ1_indexOf_4cfef_11 : decode cJ1_indexOf_4cfef 11 = .ok (.invokestatic 92, 3) := by decide +kernel
theorem dJ1_indexOf_4cfef_14 : decode cJ1_indexOf_4cfef 14 = .ok (.istore_n 2, 1) := by decide +kernel
theorem dJ1_indexOf_4cfef_15 : decode cJ1_indexOf_4cfef 15 = .ok (.iload_n 3, 1) := by decide +kernel
theorem dJ1_indexOf_4cfef_16 : decode cJ1_indexOf_4cfef 16 = .ok (.aload_n 0, 1) := by decide +kernel
theorem dJ1_indexOf_4cfef_17 : decode cJ1_indexOf_4cfef 17 = .ok (.arraylength, 1) := by decide +kernel
theorem dJ1_indexOf_4cfef_18 : decode cJ1_indexOf_4cfef 18 = .ok (.invokestatic 38, 3) := by decide +kernel
theorem dJ1_indexOf_4cfef_21 : decode cJ1_indexOf_4cfef 21 = .ok (.istore_n 3, 1) := by decide +kernel
theorem dJ1_indexOf_4cfef_22 : decode cJ1_indexOf_4cfef 22 = .ok (.iload_n 2, 1) := by decide +kernel
theorem dJ1_indexOf_4cfef_23 : decode cJ1_indexOf_4cfef 23 = .ok (.iload_n 3, 1) := by decide +kernel
theorem dJ1_indexOf_4cfef_24 : decode cJ1_indexOf_4cfef 24 = .ok (.if_icmp .lt 5, 3) := by decide +kernel
theorem dJ1_indexOf_4cfef_27 : decode cJ1_indexOf_4cfef 27 = .ok (.iconst (-1), 1) := by decide +kernel
theorem dJ1_indexOf_4cfef_28 : decode cJ1_indexOf_4cfef 28 = .ok (.ireturn, 1) := by decide +kernel
theorem dJ1_indexOf_4cfef_29 : decode cJ1_indexOf_4cfef 29 = .ok (.aload_n 0, 1) := by decide +kernel
theorem dJ1_indexOf_4cfef_30 : decode cJ1_indexOf_4cfef 30 = .ok (.iload_n 1, 1) := by decide +kernel
theorem dJ1_indexOf_4cfef_31 : decode cJ1_indexOf_4cfef 31 = .ok (.iload_n 2, 1) := by decide +kernel
theorem dJ1_indexOf_4cfef_32 : decode cJ1_indexOf_4cfef 32 = .ok (.iload_n 3, 1) := by decide +kernel
theorem dJ1_indexOf_4cfef_33 : decode cJ1_indexOf_4cfef 33 = .ok (.invokestatic 95, 3) := by decide +kernel
theorem dJ1_indexOf_4cfef_36 : decode cJ1_indexOf_4cfef 36 = .ok (.ireturn, 1) := by decide +kernel
theorem dJ1_indexOfChar_4cfef_0 : decode cJ1_indexOfChar_4cfef 0 = .ok (.iload_n 1, 1) := by decide +kernel
theorem dJ1_indexOfChar_4cfef_1 : decode cJ1_indexOfChar_4cfef 1 = .ok (.i2b, 1) := by decide +kernel
theorem dJ1_indexOfChar_4cfef_2 : decode cJ1_indexOfChar_4cfef 2 = .ok (.istore 4, 2) := by decide +kernel
theorem dJ1_indexOfChar_4cfef_4 : decode cJ1_indexOfChar_4cfef 4 = .ok (.iload_n 2, 1) := by decide +kernel
theorem dJ1_indexOfChar_4cfef_5 : decode cJ1_indexOfChar_4cfef 5 = .ok (.istore 5, 2) := by decide +kernel
theorem dJ1_indexOfChar_4cfef_7 : decode cJ1_indexOfChar_4cfef 7 = .ok (.iload 5, 2) := by decide +kernel
theorem dJ1_indexOfChar_4cfef_9 : decode cJ1_indexOfChar_4cfef 9 = .ok (.iload_n 3, 1) := by decide +kernel
theorem dJ1_indexOfChar_4cfef_10 : decode cJ1_indexOfChar_4cfef 10 = .ok (.if_icmp .ge 21, 3) := by decide +kernel
theorem dJ1_indexOfChar_4cfef_13 : decode cJ1_indexOfChar_4cfef 13 = .ok (.aload_n 0, 1) := by decide +kernel
theorem dJ1_indexOfChar_4cfef_14 : decode cJ1_indexOfChar_4cfef 14 = .ok (.iload 5, 2) := by decide +kernel
theorem dJ1_indexOfChar_4cfef_16 : decode cJ1_indexOfChar_4cfef 16 = .ok (.baload, 1) := by decide +kernel
theorem dJ1_indexOfChar_4cfef_17 : decode cJ1_indexOfChar_4cfef 17 = .ok (.iload 4, 2) := by decide +kernel
theorem dJ1_indexOfChar_4cfef_19 : decode cJ1_indexOfChar_4cfef 19 = .ok (.if_icmp .ne 6, 3) := by decide +kernel
theorem dJ1_indexOfChar_4cfef_22 : decode cJ1_indexOfChar_4cfef 22 = .ok (.iload 5, 2) := by decide +kernel
theorem dJ1_indexOfChar_4cfef_24 : decode cJ1_indexOfChar_4cfef 24 = .ok (.ireturn, 1) := by decide +kernel
theorem dJ1_indexOfChar_4cfef_25 : decode cJ1_indexOfChar_4cfef 25 = .ok (.iinc 5 1, 3) := by decide +kernel
theorem dJ1_indexOfChar_4cfef_28 : decode cJ1_indexOfChar_4cfef 28 = .ok (.goto (-21), 3) := by decide +kernel
theorem dJ1_indexOfChar_4cfef_31 : decode cJ1_indexOfChar_4cfef 31 = .ok (.iconst (-1), 1) := by decide +kernel
theorem dJ1_indexOfChar_4cfef_32 : decode cJ1_indexOfChar_4cfef 32 = .ok (.ireturn, 1) := by decide +kernel
theorem dJ2_getChar_3b067_0 : decode cJ2_getChar_3b067 0 = .ok (.getstatic 44, 3) := by decide +kernel
theorem dJ2_getChar_3b067_3 : decode cJ2_getChar_3b067 3 = .ok (.ifCond .ne 25, 3) := by decide +kernel
theorem dJ2_getChar_3b067_6 : decode cJ2_getChar_3b067 6 = .ok (.iload_n 1, 1) := by decide +kernel
theorem dJ2_getChar_3b067_7 : decode cJ2_getChar_3b067 7 = .ok (.ifCond .lt 11, 3) := by decide +kernel
theorem dJ2_getChar_3b067_10 : decode cJ2_getChar_3b067 10 = .ok (.iload_n 1, 1) := by decide +kernel
theorem dJ2_getChar_3b067_11 : decode cJ2_getChar_3b067 11 = .ok (.aload_n 0, 1) := by decide +kernel
theorem dJ2_getChar_3b067_12 : decode cJ2_getChar_3b067 12 = .ok (.invokestatic 48, 3) := by decide +kernel
theorem dJ2_getChar_3b067_15 : decode cJ2_getChar_3b067 15 = .ok (.if_icmp .lt 13, 3) := by decide +kernel
theorem dJ2_getChar_3b067_18 : decode cJ2_getChar_3b067 18 = .ok (.new 52, 3) := by decide +kernel
theorem dJ2_getChar_3b067_21 : decode cJ2_getChar_3b067 21 = .ok (.dup, 1) := by decide +kernel
theorem dJ2_getChar_3b067_22 : decode cJ2_getChar_3b067 22 = .ok (.ldc 54, 2) := by decide +kernel
theorem dJ2_getChar_3b067_24 : decode cJ2_getChar_3b067 24 = .ok (.invokespecial 56, 3) := by decide +kernel
theorem dJ2_getChar_3b067_27 : decode cJ2_getChar_3b067 27 = .ok (.athrow, 1) := by decide +kernel
theorem dJ2_getChar_3b067_28 : decode cJ2_getChar_3b067 28 = .ok (.iload_n 1, 1) := by decide +kernel
theorem dJ2_getChar_3b067_29 : decode cJ2_getChar_3b067 29 = .ok (.iconst 1, 1) := by decide +kernel
theorem dJ2_getChar_3b067_30 : decode cJ2_getChar_3b067 30 = .ok (.ishl, 1) := by decide +kernel
theorem dJ2_getChar_3b067_31 : decode cJ2_getChar_3b067 31 = .ok (.istore_n 1, 1) := by decide +kernel
theorem dJ2_getChar_3b067_32 : decode cJ2_getChar_3b067 32 = .ok (.aload_n 0, 1) := by decide +kernel
theorem dJ2_getChar_3b067_33 : decode cJ2_getChar_3b067 33 = .ok (.iload_n 1, 1) := by decide +kernel
theorem dJ2_getChar_3b067_34 : decode cJ2_getChar_3b067 34 = .ok (.iinc 1 1, 3) := by decide +kernel
theorem dJ2_getChar_3b067_37 : decode cJ2_getChar_3b067 37 = .ok (.baload, 1) := by decide +kernel
theorem dJ2_getChar_3b067_38 : decode cJ2_getChar_3b067 38 = .ok (.sipush 255, 3) := by decide +kernel
theorem dJ2_getChar_3b067_41 : decode cJ2_getChar_3b067 41 = .ok (.iand, 1) := by decide +kernel
theorem dJ2_getChar_3b067_42 : decode cJ2_getChar_3b067 42 = .ok (.getstatic 59, 3) := by decide +kernel
theorem dJ2_getChar_3b067_45 : decode cJ2_getChar_3b067 45 = .ok (.ishl, 1) := by decide +kernel
theorem dJ2_getChar_3b067_46 : decode cJ2_getChar_3b067 46 = .ok (.aload_n 0, 1) := by decide +kernel
theorem dJ2_getChar_3b067_47 : decode cJ2_getChar_3b067 47 = .ok (.iload_n 1, 1) := by decide +kernel
theorem dJ2_getChar_3b067_48 : decode cJ2_getChar_3b067 48 = .ok (.baload, 1) := by decide +kernel
theorem dJ2_getChar_3b067_49 : decode cJ2_getChar_3b067 49 = .ok (.sipush 255, 3) := by decide +kernel
theorem dJ2_getChar_3b067_52 : decode cJ2_getChar_3b067 52 = .ok (.iand, 1) := by decide +kernel
theorem dJ2_getChar_3b067_53 : decode cJ2_getChar_3b067 53 = .ok (.getstatic 63, 3) := by decide +kernel
theorem dJ2_getChar_3b067_56 : decode cJ2_getChar_3b067 56 = .ok (.ishl, 1) := by decide +kernel
theorem dJ2_getChar_3b067_57 : decode cJ2_getChar_3b067 57 = .ok (.ior, 1) := by decide +kernel
theorem dJ2_getChar_3b067_58 : decode cJ2_getChar_3b067 58 = .ok (.i2c, 1) := by decide +kernel
theorem dJ2_getChar_3b067_59 : decode cJ2_getChar_3b067 59 = .ok (.ireturn, 1) := by decide +kernel
theorem dJ2_length_9d52b_0 : decode cJ2_length_9d52b 0 = .ok (.aload_n 0, 1) := by decide +kernel
theorem dJ2_length_9d52b_1 : decode cJ2_length_9d52b 1 = .ok (.arraylength, 1) := by decide +kernel
theorem dJ2_length_9d52b_2 : decode cJ2_length_9d52b 2 = .ok (.iconst 1, 1) := by decide +kernel
theorem dJ2_length_9d52b_3 : decode cJ2_length_9d52b 3 = .ok (.ishr, 1) := by decide +kernel
theorem dJ2_length_9d52b_4 : decode cJ2_length_9d52b 4 = .ok (.ireturn, 1) := by decide +kernel
theorem dJ2_indexOf_4cfef_0 : decode cJ2_indexOf_4cfef 0 = .ok (.iload_n 2, 1) := by decide +kernel
theorem dJ2_indexOf_4cfef_1 : decode cJ2_indexOf_4cfef 1 = .ok (.iconst 0, 1) := by decide +kernel
theorem dJ2_indexOf_4cfef_2 : decode cJ2_indexOf_4cfef 2 = .ok (.invokestatic 224, 3) := by decide +kernel
theorem dJ2_indexOf_4cfef_5 : decode cJ2_indexOf_4cfef 5 = .ok (.istore_n 2, 1) := by decide +kernel
theorem dJ2_indexOf_4cfef_6 : decode cJ2_indexOf_4cfef 6 = .ok (.iload_n 3, 1) := by decide +kernel
theorem dJ2_indexOf_4cfef_7 : decode cJ2_indexOf_4cfef 7 = .ok (.aload_n 0, 1) := by decide +kernel
theorem dJ2_indexOf_4cfef_8 : decode cJ2_indexOf_4cfef 8 = .ok (.arraylength, 1) := by decide +kernel
theorem dJ2_indexOf_4cfef_9 : decode cJ2_indexOf_4cfef 9 = .ok (.iconst 1, 1) := by decide +kernel
theorem dJ2_indexOf_4cfef_10 : decode cJ2_indexOf_4cfef 10 = .ok (.ishr, 1) := by decide +kernel
theorem dJ2_indexOf_4cfef_11 : decode cJ2_indexOf_4cfef 11 = .ok (.invokestatic 183, 3) := by decide +kernel
theorem dJ2_indexOf_4cfef_14 : decode cJ2_indexOf_4cfef 14 = .ok (.istore_n 3, 1) := by decide +kernel
theorem dJ2_indexOf_4cfef_15 : decode cJ2_indexOf_4cfef 15 = .ok (.iload_n 2, 1) := by decide +kernel
theorem dJ2_indexOf_4cfef_16 : decode cJ2_indexOf_4cfef 16 = .ok (.iload_n 3, 1) := by decide +kernel
theorem dJ2_indexOf_4cfef_17 : decode cJ2_indexOf_4cfef 17 = .ok (.if_icmp .lt 5, 3) := by decide +kernel
theorem dJ2_indexOf_4cfef_20 : decode cJ2_indexOf_4cfef 20 = .ok (.iconst (-1), 1) := by decide +kernel
theorem dJ2_indexOf_4cfef_21 : decode cJ2_indexOf_4cfef 21 = .ok (.ireturn, 1) := by decide +kernel
theorem dJ2_indexOf_4cfef_22 : decode cJ2_indexOf_4cfef 22 = .ok (.iload_n 1, 1) := by decide +kernel
theorem dJ2_indexOf_4cfef_23 : decode cJ2_indexOf_4cfef 23 = .ok (.ldc 227, 2) := by decide +kernel
theorem dJ2_indexOf_4cfef_25 : decode cJ2_indexOf_4cfef 25 = .ok (.if_icmp .ge 11, 3) := by decide +kernel
theorem dJ2_indexOf_4cfef_28 : decode cJ2_indexOf_4cfef 28 = .ok (.aload_n 0, 1) := by decide +kernel
theorem dJ2_indexOf_4cfef_29 : decode cJ2_indexOf_4cfef 29 = .ok (.iload_n 1, 1) := by decide +kernel
theorem dJ2_indexOf_4cfef_30 : decode cJ2_indexOf_4cfef 30 = .ok (.iload_n 2, 1) := by decide +kernel
theorem dJ2_indexOf_4cfef_31 : decode cJ2_indexOf_4cfef 31 = .ok (.iload_n 3, 1) := by decide +kernel
theorem dJ2_indexOf_4cfef_32 : decode cJ2_indexOf_4cfef 32 = .ok (.invokestatic 228, 3) := by decide +kernel
theorem dJ2_indexOf_4cfef_35 : decode cJ2_indexOf_4cfef 35 = .ok (.ireturn, 1) := by decide +kernel
theorem dJ2_indexOf_4cfef_36 : decode cJ2_indexOf_4cfef 36 = .ok (.aload_n 0, 1) := by decide +kernel
theorem dJ2_indexOf_4cfef_37 : decode cJ2_indexOf_4cfef 37 = .ok (.iload_n 1, 1) := by decide +kernel
theorem dJ2_indexOf_4cfef_38 : decode cJ2_indexOf_4cfef 38 = .ok (.iload_n 2, 1) := by decide +kernel
theorem dJ2_indexOf_4cfef_39 : decode cJ2_indexOf_4cfef 39 = .ok (.iload_n 3, 1) := by decide +kernel
theorem dJ2_indexOf_4cfef_40 : decode cJ2_indexOf_4cfef 40 = .ok (.invokestatic 232, 3) := by decide +kernel
theorem dJ2_indexOf_4cfef_43 : decode cJ2_indexOf_4cfef 43 = .ok (.ireturn, 1) := by decide +kernel
theorem dJ2_indexOfChar_4cfef_0 : decode cJ2_indexOfChar_4cfef 0 = .ok (.iload_n 2, 1) := by decide +kernel
theorem dJ2_indexOfChar_4cfef_1 : decode cJ2_indexOfChar_4cfef 1 = .ok (.iload_n 3, 1) := by decide +kernel
theorem dJ2_indexOfChar_4cfef_2 : decode cJ2_indexOfChar_4cfef 2 = .ok (.aload_n 0, 1) := by decide +kernel
theorem dJ2_indexOfChar_4cfef_3 : decode cJ2_indexOfChar_4cfef 3 = .ok (.invokestatic 96, 3) := by decide +kernel
theorem dJ2_indexOfChar_4cfef_6 : decode cJ2_indexOfChar_4cfef 6 = .ok (.aload_n 0, 1) := by decide +kernel
theorem dJ2_indexOfChar_4cfef_7 : decode cJ2_indexOfChar_4cfef 7 = .ok (.iload_n 1, 1) := by decide +kernel
theorem dJ2_indexOfChar_4cfef_8 : decode cJ2_indexOfChar_4cfef 8 = .ok (.iload_n 2, 1) := by decide +kernel
theorem dJ2_indexOfChar_4cfef_9 : decode cJ2_indexOfChar_4cfef 9 = .ok (.iload_n 3, 1) := by decide +kernel
theorem dJ2_indexOfChar_4cfef_10 : decode cJ2_indexOfChar_4cfef 10 = .ok (.invokestatic 244, 3) := by decide +kernel
theorem dJ2_indexOfChar_4cfef_13 : decode cJ2_indexOfChar_4cfef 13 = .ok (.ireturn, 1) := by decide +kernel
theorem dJ2_indexOfCharUnsafe_4cfef_0 : decode cJ2_indexOfCharUnsafe_4cfef 0 = .ok (.iload_n 2, 1) := by decide +kernel
theorem dJ2_indexOfCharUnsafe_4cfef_1 : decode cJ2_indexOfCharUnsafe_4cfef 1 = .ok (.istore 4, 2) := by decide +kernel
theorem dJ2_indexOfCharUnsafe_4cfef_3 : decode cJ2_indexOfCharUnsafe_4cfef 3 = .ok (.iload 4, 2) := by decide +kernel
theorem dJ2_indexOfCharUnsafe_4cfef_5 : decode cJ2_indexOfCharUnsafe_4cfef 5 = .ok (.iload_n 3, 1) := by decide +kernel
theorem dJ2_indexOfCharUnsafe_4cfef_6 : decode cJ2_indexOfCharUnsafe_4cfef 6 = .ok (.if_icmp .ge 22, 3) := by decide +kernel
theorem dJ2_indexOfCharUnsafe_4cfef_9 : decode cJ2_indexOfCharUnsafe_4cfef 9 = .ok (.aload_n 0, 1) := by decide +kernel
theorem dJ2_indexOfCharUnsafe_4cfef_10 : decode cJ2_indexOfCharUnsafe_4cfef 10 = .ok (.iload 4, 2) := by decide +kernel
theorem dJ2_indexOfCharUnsafe_4cfef_12 : decode cJ2_indexOfCharUnsafe_4cfef 12 = .ok (.invokestatic 71, 3) := by decide +kernel
theorem dJ2_indexOfCharUnsafe_4cfef_15 : decode cJ2_indexOfCharUnsafe_4cfef 15 = .ok (.iload_n 1, 1) := by decide +kernel
theorem dJ2_indexOfCharUnsafe_4cfef_16 : decode cJ2_indexOfCharUnsafe_4cfef 16 = .ok (.if_icmp .ne 6, 3) := by decide +kernel
theorem dJ2_indexOfCharUnsafe_4cfef_19 : decode cJ2_indexOfCharUnsafe_4cfef 19 = .ok (.iload 4, 2) := by decide +kernel
theorem dJ2_indexOfCharUnsafe_4cfef_21 : decode cJ2_indexOfCharUnsafe_4cfef 21 = .ok (.ireturn, 1) := by decide +kernel
theorem dJ2_indexOfCharUnsafe_4cfef_22 : decode cJ2_indexOfCharUnsafe_4cfef 22 = .ok (.iinc 4 1, 3) := by decide +kernel
theorem dJ2_indexOfCharUnsafe_4cfef_25 : decode cJ2_indexOfCharUnsafe_4cfef 25 = .ok (.goto (-22), 3) := by decide +kernel
theorem dJ2_indexOfCharUnsafe_4cfef_28 : decode cJ2_indexOfCharUnsafe_4cfef 28 = .ok (.iconst (-1), 1) := by decide +kernel
theorem dJ2_indexOfCharUnsafe_4cfef_29 : decode cJ2_indexOfCharUnsafe_4cfef 29 = .ok (.ireturn, 1) := by decide +kernel
theorem dJ2_indexOfSupplementary_4cfef_0 : decode cJ2_indexOfSupplementary_4cfef 0 = .ok (.iload_n 1, 1) := by decide +kernel
theorem dJ2_indexOfSupplementary_4cfef_1 : decode cJ2_indexOfSupplementary_4cfef 1 = .ok (.invokestatic 164, 3) := by decide +kernel
theorem dJ2_indexOfSupplementary_4cfef_4 : decode cJ2_indexOfSupplementary_4cfef 4 = .ok (.ifCond .eq 65, 3) := by decide +kernel
theorem dJ2_indexOfSupplementary_4cfef_7 : decode cJ2_indexOfSupplementary_4cfef 7 = .ok (.iload_n 1, 1) := by decide +kernel
theorem dJ2_indexOfSupplementary_4cfef_8 : decode cJ2_indexOfSupplementary_4cfef 8 = .ok (.invokestatic 157, 3) := by decide +kernel
theorem dJ2_indexOfSupplementary_4cfef_11 : decode cJ2_indexOfSupplementary_4cfef 11 = .ok (.istore 4, 2) := by decide +kernel
theorem dJ2_indexOfSupplementary_4cfef_13 : decode cJ2_indexOfSupplementary_4cfef 13 = .ok (.iload_n 1, 1) := by decide +kernel
theorem dJ2_indexOfSupplementary_4cfef_14 : decode cJ2_indexOfSupplementary_4cfef 14 = .ok (.invokestatic 161, 3) := by decide +kernel
theorem dJ2_indexOfSupplementary_4cfef_17 : decode cJ2_indexOfSupplementary_4cfef 17 = .ok (.istore 5, 2) := by decide +kernel
theorem dJ2_indexOfSupplementary_4cfef_19 : decode cJ2_indexOfSupplementary_4cfef 19 = .ok (.iload_n 2, 1) := by decide +kernel
theorem dJ2_indexOfSupplementary_4cfef_20 : decode cJ2_indexOfSupplementary_4cfef 20 = .ok (.iload_n 3, 1) := by decide +kernel
theorem dJ2_indexOfSupplementary_4cfef_21 : decode cJ2_indexOfSupplementary_4cfef 21 = .ok (.aload_n 0, 1) := by decide +kernel
theorem dJ2_indexOfSupplementary_4cfef_22 : decode cJ2_indexOfSupplementary_4cfef 22 = .ok (.invokestatic 96, 3) := by decide +kernel
theorem dJ2_indexOfSupplementary_4cfef_25 : decode cJ2_indexOfSupplementary_4cfef 25 = .ok (.iload_n 2, 1) := by decide +kernel
theorem dJ2_indexOfSupplementary_4cfef_26 : decode cJ2_indexOfSupplementary_4cfef 26 = .ok (.istore 6, 2) := by decide +kernel
theorem dJ2_indexOfSupplementary_4cfef_28 : decode cJ2_indexOfSupplementary_4cfef 28 = .ok (.iload 6, 2) := by decide +kernel
theorem dJ2_indexOfSupplementary_4cfef_30 : decode cJ2_indexOfSupplementary_4cfef 30 = .ok (.iload_n 3, 1) := by decide +kernel
theorem dJ2_indexOfSupplementary_4cfef_31 : decode cJ2_indexOfSupplementary_4cfef 31 = .ok (.iconst 1, 1) := by decide +kernel
theorem dJ2_indexOfSupplementary_4cfef_32 : decode cJ2_indexOfSupplementary_4cfef 32 = .ok (.isub, 1) := by decide +kernel
theorem dJ2_indexOfSupplementary_4cfef_33 : decode cJ2_indexOfSupplementary_4cfef 33 = .ok (.if_icmp .ge 36, 3) := by decide +kernel
theorem dJ2_indexOfSupplementary_4cfef_36 : decode cJ2_indexOfSupplementary_4cfef 36 = .ok (.aload_n 0, 1) := by decide +kernel
theorem dJ2_indexOfSupplementary_4cfef_37 : decode cJ2_indexOfSupplementary_4cfef 37 = .ok (.iload 6, 2) := by decide +kernel
theorem dJ2_indexOfSupplementary_4cfef_39 : decode cJ2_indexOfSupplementary_4cfef 39 = .ok (.invokestatic 71, 3) := by decide +kernel
theorem dJ2_indexOfSupplementary_4cfef_42 : decode cJ2_indexOfSupplementary_4cfef 42 = .ok (.iload 4, 2) := by decide +kernel
theorem dJ2_indexOfSupplementary_4cfef_44 : decode cJ2_indexOfSupplementary_4cfef 44 = .ok (.if_icmp .ne 19, 3) := by decide +kernel
theorem dJ2_indexOfSupplementary_4cfef_47 : decode cJ2_indexOfSupplementary_4cfef 47 = .ok (.aload_n 0, 1) := by decide +kernel
theorem dJ2_indexOfSupplementary_4cfef_48 : decode cJ2_indexOfSupplementary_4cfef 48 = .ok (.iload 6, 2) := by decide +kernel
theorem dJ2_indexOfSupplementary_4cfef_50 : decode cJ2_indexOfSupplementary_4cfef 50 = .ok (.iconst 1, 1) := by decide +kernel
theorem dJ2_indexOfSupplementary_4cfef_51 : decode cJ2_indexOfSupplementary_4cfef 51 = .ok (.iadd, 1) := by decide +kernel
theorem dJ2_indexOfSupplementary_4cfef_52 : decode cJ2_indexOfSupplementary_4cfef 52 = .ok (.invokestatic 71, 3) := by decide +kernel
theorem dJ2_indexOfSupplementary_4cfef_55 : decode cJ2_indexOfSupplementary_4cfef 55 = .ok (.iload 5, 2) := by decide +kernel
theorem dJ2_indexOfSupplementary_4cfef_57 : decode cJ2_indexOfSupplementary_4cfef 57 = .ok (.if_icmp .ne 6, 3) := by decide +kernel
theorem dJ2_indexOfSupplementary_4cfef_60 : decode cJ2_indexOfSupplementary_4cfef 60 = .ok (.iload 6, 2) := by decide +kernel
theorem dJ2_indexOfSupplementary_4cfef_62 : decode cJ2_indexOfSupplementary_4cfef 62 = .ok (.ireturn, 1) := by decide +kernel
theorem dJ2_indexOfSupplementary_4cfef_63 : decode cJ2_indexOfSupplementary_4cfef 63 = .ok (.iinc 6 1, 3) := by decide +kernel
theorem dJ2_indexOfSupplementary_4cfef_66 : decode cJ2_indexOfSupplementary_4cfef 66 = .ok (.goto (-38), 3) := by decide +kernel
theorem dJ2_indexOfSupplementary_4cfef_69 : decode cJ2_indexOfSupplementary_4cfef 69 = .ok (.iconst (-1), 1) := by decide +kernel
theorem dJ2_indexOfSupplementary_4cfef_70 : decode cJ2_indexOfSupplementary_4cfef 70 = .ok (.ireturn, 1) := by decide +kernel
theorem dJ2_checkBoundsBeginEnd_d044e_0 : decode cJ2_checkBoundsBeginEnd_d044e 0 = .ok (.iload_n 0, 1) := by decide +kernel
theorem dJ2_checkBoundsBeginEnd_d044e_1 : decode cJ2_checkBoundsBeginEnd_d044e 1 = .ok (.iload_n 1, 1) := by decide +kernel
theorem dJ2_checkBoundsBeginEnd_d044e_2 : decode cJ2_checkBoundsBeginEnd_d044e 2 = .ok (.aload_n 2, 1) := by decide +kernel
theorem dJ2_checkBoundsBeginEnd_d044e_3 : decode cJ2_checkBoundsBeginEnd_d044e 3 = .ok (.invokestatic 48, 3) := by decide +kernel
theorem dJ2_checkBoundsBeginEnd_d044e_6 : decode cJ2_checkBoundsBeginEnd_d044e 6 = .ok (.invokestatic 241, 3) := by decide +kernel
theorem dJ2_checkBoundsBeginEnd_d044e_9 : decode cJ2_checkBoundsBeginEnd_d044e 9 = .ok (.return_, 1) := by decide +kernel
theorem dJxa1e45_init_da8c8_0 : decode cJxa1e45_init_da8c8 0 = .ok (.aload_n 0, 1) := by decide +kernel
theorem dJxa1e45_init_da8c8_1 : decode cJxa1e45_init_da8c8 1 = .ok (.invokespecial 1, 3) := by decide +kernel
theorem dJxa1e45_init_da8c8_4 : decode cJxa1e45_init_da8c8 4 = .ok (.return_, 1) := by decide +kernel
theorem dJxc12de_init_da8c8_0 : decode cJxc12de_init_da8c8 0 = .ok (.aload_n 0, 1) := by decide +kernel
theorem dJxc12de_init_da8c8_1 : decode cJxc12de_init_da8c8 1 = .ok (.invokespecial 1, 3) := by decide +kernel
theorem dJxc12de_init_da8c8_4 : decode cJxc12de_init_da8c8 4 = .ok (.aload_n 0, 1) := by decide +kernel
theorem dJxc12de_init_da8c8_5 : decode cJxc12de_init_da8c8 5 = .ok (.iconst 0, 1) := by decide +kernel
theorem dJxc12de_init_da8c8_6 : decode cJxc12de_init_da8c8 6 = .ok (.putfield 7, 3) := by decide +kernel
theorem dJxc12de_init_da8c8_9 : decode cJxc12de_init_da8c8 9 = .ok (.return_, 1) := by decide +kernel
theorem dJx35411_init_45d68_0 : decode cJx35411_init_45d68 0 = .ok (.aload_n 0, 1) := by decide +kernel
theorem dJx35411_init_45d68_1 : decode cJx35411_init_45d68 1 = .ok (.aload_n 1, 1) := by decide +kernel
theorem dJx35411_init_45d68_2 : decode cJx35411_init_45d68 2 = .ok (.putfield 1, 3) := by decide +kernel
theorem dJx35411_init_45d68_5 : decode cJx35411_init_45d68 5 = .ok (.aload_n 0, 1) := by decide +kernel
theorem dJx35411_init_45d68_6 : decode cJx35411_init_45d68 6 = .ok (.invokespecial 7, 3) := by decide +kernel
theorem dJx35411_init_45d68_9 : decode cJx35411_init_45d68 9 = .ok (.aload_n 0, 1) := by decide +kernel
theorem dJx35411_init_45d68_10 : decode cJx35411_init_45d68 10 = .ok (.iconst (-1), 1) := by decide +kernel
theorem dJx35411_init_45d68_11 : decode cJx35411_init_45d68 11 = .ok (.putfield 13, 3) := by decide +kernel
theorem dJx35411_init_45d68_14 : decode cJx35411_init_45d68 14 = .ok (.aload_n 0, 1) := by decide +kernel
theorem dJx35411_init_45d68_15 : decode cJx35411_init_45d68 15 = .ok (.aload_n 0, 1) := by decide +kernel
theorem dJx35411_init_45d68_16 : decode cJx35411_init_45d68 16 = .ok (.getfield 1, 3) := by decide +kernel
theorem dJx35411_init_45d68_19 : decode cJx35411_init_45d68 19 = .ok (.getfield 17, 3) := by decide +kernel
theorem dJx35411_init_45d68_22 : decode cJx35411_init_45d68 22 = .ok (.putfield 22, 3) := by decide +kernel
theorem dJx35411_init_45d68_25 : decode cJx35411_init_45d68 25 = .ok (.return_, 1) := by decide +kernel
theorem dJx35411_hasNext_aae02_0 : decode cJx35411_hasNext_aae02 0 = .ok (.aload_n 0, 1) := by decide +kernel
theorem dJx35411_hasNext_aae02_1 : decode cJx35411_hasNext_aae02 1 = .ok (.getfield 25, 3) := by decide +kernel
theorem dJx35411_hasNext_aae02_4 : decode cJx35411_hasNext_aae02 4 = .ok (.aload_n 0, 1) := by decide +kernel
theorem dJx35411_hasNext_aae02_5 : decode cJx35411_hasNext_aae02 5 = .ok (.getfield 1, 3) := by decide +kernel
theorem dJx35411_hasNext_aae02_8 : decode cJx35411_hasNext_aae02 8 = .ok (.getfield 28, 3) := by decide +kernel
theorem dJx35411_hasNext_aae02_11 : decode cJx35411_hasNext_aae02 11 = .ok (.if_icmp .eq 7, 3) := by decide +kernel
theorem dJx35411_hasNext_aae02_14 : decode cJx35411_hasNext_aae02 14 = .ok (.iconst 1, 1) := by decide +kernel
theorem dJx35411_hasNext_aae02_15 : decode cJx35411_hasNext_aae02 15 = .ok (.goto 4, 3) := by decide +kernel
theorem dJx35411_hasNext_aae02_18 : decode cJx35411_hasNext_aae02 18 = .ok (.iconst 0, 1) := by decide +kernel
theorem dJx35411_hasNext_aae02_19 : decode cJx35411_hasNext_aae02 19 = .ok (.ireturn, 1) := by decide +kernel
theorem dJx35411_next_0502b_0 : decode cJx35411_next_0502b 0 = .ok (.aload_n 0, 1) := by decide +kernel
theorem dJx35411_next_0502b_1 : decode cJx35411_next_0502b 1 = .ok (.invokevirtual 31, 3) := by decide +kernel
theorem dJx35411_next_0502b_4 : decode cJx35411_next_0502b 4 = .ok (.aload_n 0, 1) := by decide +kernel
theorem dJx35411_next_0502b_5 : decode cJx35411_next_0502b 5 = .ok (.getfield 25, 3) := by decide +kernel
theorem dJx35411_next_0502b_8 : decode cJx35411_next_0502b 8 = .ok (.istore_n 1, 1) := by decide +kernel
theorem dJx35411_next_0502b_9 : decode cJx35411_next_0502b 9 = .ok (.iload_n 1, 1) := by decide +kernel
theorem dJx35411_next_0502b_10 : decode cJx35411_next_0502b 10 = .ok (.aload_n 0, 1) := by decide +kernel
theorem dJx35411_next_0502b_11 : decode cJx35411_next_0502b 11 = .ok (.getfield 1, 3) := by decide +kernel
theorem dJx35411_next_0502b_14 : decode cJx35411_next_0502b 14 = .ok (.getfield 28, 3) := by decide +kernel
theorem dJx35411_next_0502b_17 : decode cJx35411_next_0502b 17 = .ok (.if_icmp .lt 11, 3) := by decide +kernel
theorem dJx35411_next_0502b_20 : decode cJx35411_next_0502b 20 = .ok (.new 34, 3) := by decide +kernel
theorem dJx35411_next_0502b_23 : decode cJx35411_next_0502b 23 = .ok (.dup, 1) := by decide +kernel
theorem dJx35411_next_0502b_24 : decode cJx35411_next_0502b 24 = .ok (.invokespecial 36, 3) := by decide +kernel
theorem dJx35411_next_0502b_27 : decode cJx35411_next_0502b 27 = .ok (.athrow, 1) := by decide +kernel
theorem dJx35411_next_0502b_28 : decode cJx35411_next_0502b 28 = .ok (.aload_n 0, 1) := by decide +kernel
theorem dJx35411_next_0502b_29 : decode cJx35411_next_0502b 29 = .ok (.getfield 1, 3) := by decide +kernel
theorem dJx35411_next_0502b_32 : decode cJx35411_next_0502b 32 = .ok (.getfield 37, 3) := by decide +kernel
theorem dJx35411_next_0502b_35 : decode cJx35411_next_0502b 35 = .ok (.astore_n 2, 1) := by decide +kernel
theorem dJx35411_next_0502b_36 : decode cJx35411_next_0502b 36 = .ok (.iload_n 1, 1) := by decide +kernel
theorem dJx35411_next_0502b_37 : decode cJx35411_next_0502b 37 = .ok (.aload_n 2, 1) := by decide +kernel
theorem dJx35411_next_0502b_38 : decode cJx35411_next_0502b 38 = .ok (.arraylength, 1) := by decide +kernel
theorem dJx35411_next_0502b_39 : decode cJx35411_next_0502b 39 = .ok (.if_icmp .lt 11, 3) := by decide +kernel
theorem dJx35411_next_0502b_42 : decode cJx35411_next_0502b 42 = .ok (.new 41, 3) := by decide +kernel
theorem dJx35411_next_0502b_45 : decode cJx35411_next_0502b 45 = .ok (.dup, 1) := by decide +kernel
theorem dJx35411_next_0502b_46 : decode cJx35411_next_0502b 46 = .ok (.invokespecial 43, 3) := by decide +kernel
theorem dJx35411_next_0502b_49 : decode cJx35411_next_0502b 49 = .ok (.athrow, 1) := by decide +kernel
theorem dJx35411_next_0502b_50 : decode cJx35411_next_0502b 50 = .ok (.aload_n 0, 1) := by decide +kernel
theorem dJx35411_next_0502b_51 : decode cJx35411_next_0502b 51 = .ok (.iload_n 1, 1) := by decide +kernel
theorem dJx35411_next_0502b_52 : decode cJx35411_next_0502b 52 = .ok (.iconst 1, 1) := by decide +kernel
theorem dJx35411_next_0502b_53 : decode cJx35411_next_0502b 53 = .ok (.iadd, 1) := by decide +kernel
theorem dJx35411_next_0502b_54 : decode cJx35411_next_0502b 54 = .ok (.putfield 25, 3) := by decide +kernel
theorem dJx35411_next_0502b_57 : decode cJx35411_next_0502b 57 = .ok (.aload_n 2, 1) := by decide +kernel
theorem dJx35411_next_0502b_58 : decode cJx35411_next_0502b 58 = .ok (.aload_n 0, 1) := by decide +kernel
theorem dJx35411_next_0502b_59 : decode cJx35411_next_0502b 59 = .ok (.iload_n 1, 1) := by decide +kernel
theorem dJx35411_next_0502b_60 : decode cJx35411_next_0502b 60 = .ok (.dup_x1, 1) := by decide +kernel
theorem dJx35411_next_0502b_61 : decode cJx35411_next_0502b 61 = .ok (.putfield 13, 3) := by decide +kernel
theorem dJx35411_next_0502b_64 : decode cJx35411_next_0502b 64 = .ok (.aaload, 1) := by decide +kernel
theorem dJx35411_next_0502b_65 : decode cJx35411_next_0502b 65 = .ok (.areturn, 1) := by decide +kernel
theorem dJx35411_checkForComodification_da8c8_0 : decode cJx35411_checkForComodification_da8c8 0 = .ok (.aload_n 0, 1) := by decide +kernel
theorem dJx35411_checkForComodification_da8c8_1 : decode cJx35411_checkForComodification_da8c8 1 = .ok (.getfield 1, 3) := by decide +kernel
theorem dJx35411_checkForComodification_da8c8_4 : decode cJx35411_checkForComodification_da8c8 4 = .ok (.getfield 17, 3) := by decide +kernel
theorem dJx35411_checkForComodification_da8c8_7 : decode cJx35411_checkForComodification_da8c8 7 = .ok (.aload_n 0, 1) := by decide +kernel
theorem dJx35411_checkForComodification_da8c8_8 : decode cJx35411_checkForComodification_da8c8 8 = .ok (.getfield 22, 3) := by decide +kernel
theorem dJx35411_checkForComodification_da8c8_11 : decode cJx35411_checkForComodification_da8c8 11 = .ok (.if_icmp .eq 11, 3) := by decide +kernel
theorem dJx35411_checkForComodification_da8c8_14 : decode cJx35411_checkForComodification_da8c8 14 = .ok (.new 41, 3) := by decide +kernel
theorem dJx35411_checkForComodification_da8c8_17 : decode cJx35411_checkForComodification_da8c8 17 = .ok (.dup, 1) := by decide +kernel
theorem dJx35411_checkForComodification_da8c8_18 : decode cJx35411_checkForComodification_da8c8 18 = .ok (.invokespecial 43, 3) := by decide +kernel
theorem dJx35411_checkForComodification_da8c8_21 : decode cJx35411_checkForComodification_da8c8 21 = .ok (.athrow, 1) := by decide +kernel
theorem dJx35411_checkForComodification_da8c8_22 : decode cJx35411_checkForComodification_da8c8 22 = .ok (.return_, 1) := by decide +kernel
theorem dJx4a65c_init_da8c8_0 : decode cJx4a65c_init_da8c8 0 = .ok (.aload_n 0, 1) := by decide +kernel
theorem dJx4a65c_init_da8c8_1 : decode cJx4a65c_init_da8c8 1 = .ok (.invokespecial 1, 3) := by decide +kernel
theorem dJx4a65c_init_da8c8_4 : decode cJx4a65c_init_da8c8 4 = .ok (.aload_n 0, 1) := by decide +kernel
theorem dJx4a65c_init_da8c8_5 : decode cJx4a65c_init_da8c8 5 = .ok (.getstatic 39, 3) := by decide +kernel
theorem dJx4a65c_init_da8c8_8 : decode cJx4a65c_init_da8c8 8 = .ok (.putfield 9, 3) := by decide +kernel
theorem dJx4a65c_init_da8c8_11 : decode cJx4a65c_init_da8c8 11 = .ok (.return_, 1) := by decide +kernel
theorem dJx4a65c_grow_92f84_0 : decode cJx4a65c_grow_92f84 0 = .ok (.aload_n 0, 1) := by decide +kernel
theorem dJx4a65c_grow_92f84_1 : decode cJx4a65c_grow_92f84 1 = .ok (.getfield 9, 3) := by decide +kernel
theorem dJx4a65c_grow_92f84_4 : decode cJx4a65c_grow_92f84 4 = .ok (.arraylength, 1) := by decide +kernel
theorem dJx4a65c_grow_92f84_5 : decode cJx4a65c_grow_92f84 5 = .ok (.istore_n 2, 1) := by decide +kernel
theorem dJx4a65c_grow_92f84_6 : decode cJx4a65c_grow_92f84 6 = .ok (.iload_n 2, 1) := by decide +kernel
theorem dJx4a65c_grow_92f84_7 : decode cJx4a65c_grow_92f84 7 = .ok (.ifCond .gt 13, 3) := by decide +kernel
theorem dJx4a65c_grow_92f84_10 : decode cJx4a65c_grow_92f84 10 = .ok (.aload_n 0, 1) := by decide +kernel
theorem dJx4a65c_grow_92f84_11 : decode cJx4a65c_grow_92f84 11 = .ok (.getfield 9, 3) := by decide +kernel
theorem dJx4a65c_grow_92f84_14 : decode cJx4a65c_grow_92f84 14 = .ok (.getstatic 39, 3) := by decide +kernel
theorem dJx4a65c_grow_92f84_17 : decode cJx4a65c_grow_92f84 17 = .ok (.if_acmp .eq 28, 3) := by decide +kernel
theorem dJx4a65c_grow_92f84_20 : decode cJx4a65c_grow_92f84 20 = .ok (.iload_n 2, 1) := by decide +kernel
theorem dJx4a65c_grow_92f84_21 : decode cJx4a65c_grow_92f84 21 = .ok (.iload_n 1, 1) := by decide +kernel
theorem dJx4a65c_grow_92f84_22 : decode cJx4a65c_grow_92f84 22 = .ok (.iload_n 2, 1) := by decide +kernel
theorem dJx4a65c_grow_92f84_23 : decode cJx4a65c_grow_92f84 23 = .ok (.isub, 1) := by decide +kernel
theorem dJx4a65c_grow_92f84_24 : decode cJx4a65c_grow_92f84 24 = .ok (.iload_n 2, 1) := by decide +kernel
theorem dJx4a65c_grow_92f84_25 : decode cJx4a65c_grow_92f84 25 = .ok (.iconst 1, 1) := by decide +kernel
theorem dJx4a65c_grow_92f84_26 : decode cJx4a65c_grow_92f84 26 = .ok (.ishr, 1) := by decide +kernel
theorem dJx4a65c_grow_92f84_27 : decode cJx4a65c_grow_92f84 27 = .ok (.invokestatic 73, 3) := by decide +kernel
theorem dJx4a65c_grow_92f84_30 : decode cJx4a65c_grow_92f84 30 = .ok (.istore_n 3, 1) := by decide +kernel
theorem dJx4a65c_grow_92f84_31 : decode cJx4a65c_grow_92f84 31 = .ok (.aload_n 0, 1) := by decide +kernel
theorem dJx4a65c_grow_92f84_32 : decode cJx4a65c_grow_92f84 32 = .ok (.aload_n 0, 1) := by decide +kernel
theorem dJx4a65c_grow_92f84_33 : decode cJx4a65c_grow_92f84 33 = .ok (.getfield 9, 3) := by decide +kernel
theorem dJx4a65c_grow_92f84_36 : decode cJx4a65c_grow_92f84 36 = .ok (.iload_n 3, 1) := by decide +kernel
theorem dJx4a65c_grow_92f84_37 : decode cJx4a65c_grow_92f84 37 = .ok (.invokestatic 66, 3) := by decide +kernel
theorem dJx4a65c_grow_92f84_40 : decode cJx4a65c_grow_92f84 40 = .ok (.dup_x1, 1) := by decide +kernel
theorem dJx4a65c_grow_92f84_41 : decode cJx4a65c_grow_92f84 41 = .ok (.putfield 9, 3) := by decide +kernel
theorem dJx4a65c_grow_92f84_44 : decode cJx4a65c_grow_92f84 44 = .ok (.areturn, 1) := by decide +kernel
theorem dJx4a65c_grow_92f84_45 : decode cJx4a65c_grow_92f84 45 = .ok (.aload_n 0, 1) := by decide +kernel
theorem dJx4a65c_grow_92f84_46 : decode cJx4a65c_grow_92f84 46 = .ok (.bipush 10, 2) := by decide +kernel
theorem dJx4a65c_grow_92f84_48 : decode cJx4a65c_grow_92f84 48 = .ok (.iload_n 1, 1) := by decide +kernel
theorem dJx4a65c_grow_92f84_49 : decode cJx4a65c_grow_92f84 49 = .ok (.invokestatic 79, 3) := by decide +kernel
theorem dJx4a65c_grow_92f84_52 : decode cJx4a65c_grow_92f84 52 = .ok (.anewarray 7, 3) := by decide +kernel
theorem dJx4a65c_grow_92f84_55 : decode cJx4a65c_grow_92f84 55 = .ok (.dup_x1, 1) := by decide +kernel
theorem dJx4a65c_grow_92f84_56 : decode cJx4a65c_grow_92f84 56 = .ok (.putfield 9, 3) := by decide +kernel
theorem dJx4a65c_grow_92f84_59 : decode cJx4a65c_grow_92f84 59 = .ok (.areturn, 1) := by decide +kernel
theorem dJx4a65c_grow_d5877_0 : decode cJx4a65c_grow_d5877 0 = .ok (.aload_n 0, 1) := by decide +kernel
theorem dJx4a65c_grow_d5877_1 : decode cJx4a65c_grow_d5877 1 = .ok (.aload_n 0, 1) := by decide +kernel
theorem dJx4a65c_grow_d5877_2 : decode cJx4a65c_grow_d5877 2 = .ok (.getfield 48, 3) := by decide +kernel
theorem dJx4a65c_grow_d5877_5 : decode cJx4a65c_grow_d5877 5 = .ok (.iconst 1, 1) := by decide +kernel
theorem dJx4a65c_grow_d5877_6 : decode cJx4a65c_grow_d5877 6 = .ok (.iadd, 1) := by decide +kernel
theorem dJx4a65c_grow_d5877_7 : decode cJx4a65c_grow_d5877 7 = .ok (.invokevirtual 69, 3) := by decide +kernel
theorem dJx4a65c_grow_d5877_10 : decode cJx4a65c_grow_d5877 10 = .ok (.areturn, 1) := by decide +kernel
theorem dJx4a65c_size_8abf5_0 : decode cJx4a65c_size_8abf5 0 = .ok (.aload_n 0, 1) := by decide +kernel
theorem dJx4a65c_size_8abf5_1 : decode cJx4a65c_size_8abf5 1 = .ok (.getfield 48, 3) := by decide +kernel
theorem dJx4a65c_size_8abf5_4 : decode cJx4a65c_size_8abf5 4 = .ok (.ireturn, 1) := by decide +kernel
theorem dJx4a65c_isEmpty_aae02_0 : decode cJx4a65c_isEmpty_aae02 0 = .ok (.aload_n 0, 1) := by decide +kernel
theorem dJx4a65c_isEmpty_aae02_1 : decode cJx4a65c_isEmpty_aae02 1 = .ok (.getfield 48, 3) := by decide +kernel
theorem dJx4a65c_isEmpty_aae02_4 : decode cJx4a65c_isEmpty_aae02 4 = .ok (.ifCond .ne 7, 3) := by decide +kernel
theorem dJx4a65c_isEmpty_aae02_7 : decode cJx4a65c_isEmpty_aae02 7 = .ok (.iconst 1, 1) := by decide +kernel
theorem dJx4a65c_isEmpty_aae02_8 : decode cJx4a65c_isEmpty_aae02 8 = .ok (.goto 4, 3) := by decide +kernel
theorem dJx4a65c_isEmpty_aae02_11 : decode cJx4a65c_isEmpty_aae02 11 = .ok (.iconst 0, 1) := by decide +kernel
theorem dJx4a65c_isEmpty_aae02_12 : decode cJx4a65c_isEmpty_aae02 12 = .ok (.ireturn, 1) := by decide +kernel
theorem dJx4a65c_elementData_915e3_0 : decode cJx4a65c_elementData_915e3 0 = .ok (.aload_n 0, 1) := by decide +kernel
theorem dJx4a65c_elementData_915e3_1 : decode cJx4a65c_elementData_915e3 1 = .ok (.getfield 9, 3) := by decide +kernel
theorem dJx4a65c_elementData_915e3_4 : decode cJx4a65c_elementData_915e3 4 = .ok (.iload_n 1, 1) := by decide +kernel
theorem dJx4a65c_elementData_915e3_5 : decode cJx4a65c_elementData_915e3 5 = .ok (.aaload, 1) := by decide +kernel
theorem dJx4a65c_elementData_915e3_6 : decode cJx4a65c_elementData_915e3 6 = .ok (.areturn, 1) := by decide +kernel
theorem dJx4a65c_get_915e3_0 : decode cJx4a65c_get_915e3 0 = .ok (.iload_n 1, 1) := by decide +kernel
theorem dJx4a65c_get_915e3_1 : decode cJx4a65c_get_915e3 1 = .ok (.aload_n 0, 1) := by decide +kernel
theorem dJx4a65c_get_915e3_2 : decode cJx4a65c_get_915e3 2 = .ok (.getfield 48, 3) := by decide +kernel
theorem dJx4a65c_get_915e3_5 : decode cJx4a65c_get_915e3 5 = .ok (.invokestatic 118, 3) := by decide +kernel
theorem dJx4a65c_get_915e3_8 : decode cJx4a65c_get_915e3 8 = .ok (.pop, 1) := by decide +kernel
theorem dJx4a65c_get_915e3_9 : decode cJx4a65c_get_915e3 9 = .ok (.aload_n 0, 1) := by decide +kernel
theorem dJx4a65c_get_915e3_10 : decode cJx4a65c_get_915e3 10 = .ok (.iload_n 1, 1) := by decide +kernel
theorem dJx4a65c_get_915e3_11 : decode cJx4a65c_get_915e3 11 = .ok (.invokevirtual 123, 3) := by decide +kernel
theorem dJx4a65c_get_915e3_14 : decode cJx4a65c_get_915e3 14 = .ok (.areturn, 1) := by decide +kernel
theorem dJx4a65c_set_bcc79_0 : decode cJx4a65c_set_bcc79 0 = .ok (.iload_n 1, 1) := by decide +kernel
theorem dJx4a65c_set_bcc79_1 : decode cJx4a65c_set_bcc79 1 = .ok (.aload_n 0, 1) := by decide +kernel
theorem dJx4a65c_set_bcc79_2 : decode cJx4a65c_set_bcc79 2 = .ok (.getfield 48, 3) := by decide +kernel
theorem dJx4a65c_set_bcc79_5 : decode cJx4a65c_set_bcc79 5 = .ok (.invokestatic 118, 3) := by decide +kernel
theorem dJx4a65c_set_bcc79_8 : decode cJx4a65c_set_bcc79 8 = .ok (.pop, 1) := by decide +kernel
theorem dJx4a65c_set_bcc79_9 : decode cJx4a65c_set_bcc79 9 = .ok (.aload_n 0, 1) := by decide +kernel
theorem dJx4a65c_set_bcc79_10 : decode cJx4a65c_set_bcc79 10 = .ok (.iload_n 1, 1) := by decide +kernel
theorem dJx4a65c_set_bcc79_11 : decode cJx4a65c_set_bcc79 11 = .ok (.invokevirtual 123, 3) := by decide +kernel
theorem dJx4a65c_set_bcc79_14 : decode cJx4a65c_set_bcc79 14 = .ok (.astore_n 3, 1) := by decide +kernel
theorem dJx4a65c_set_bcc79_15 : decode cJx4a65c_set_bcc79 15 = .ok (.aload_n 0, 1) := by decide +kernel
theorem dJx4a65c_set_bcc79_16 : decode cJx4a65c_set_bcc79 16 = .ok (.getfield 9, 3) := by decide +kernel
theorem dJx4a65c_set_bcc79_19 : decode cJx4a65c_set_bcc79 19 = .ok (.iload_n 1, 1) := by decide +kernel
theorem dJx4a65c_set_bcc79_20 : decode cJx4a65c_set_bcc79 20 = .ok (.aload_n 2, 1) := by decide +kernel
theorem dJx4a65c_set_bcc79_21 : decode cJx4a65c_set_bcc79 21 = .ok (.aastore, 1) := by decide +kernel
theorem dJx4a65c_set_bcc79_22 : decode cJx4a65c_set_bcc79 22 = .ok (.aload_n 3, 1) := by decide +kernel
theorem dJx4a65c_set_bcc79_23 : decode cJx4a65c_set_bcc79 23 = .ok (.areturn, 1) := by decide +kernel
theorem dJx4a65c_add_72be8_0 : decode cJx4a65c_add_72be8 0 = .ok (.iload_n 3, 1) := by decide +kernel
theorem dJx4a65c_add_72be8_1 : decode cJx4a65c_add_72be8 1 = .ok (.aload_n 2, 1) := by decide +kernel
theorem dJx4a65c_add_72be8_2 : decode cJx4a65c_add_72be8 2 = .ok (.arraylength, 1) := by decide +kernel
theorem dJx4a65c_add_72be8_3 : decode cJx4a65c_add_72be8 3 = .ok (.if_icmp .ne 8, 3) := by decide +kernel
theorem dJx4a65c_add_72be8_6 : decode cJx4a65c_add_72be8 6 = .ok (.aload_n 0, 1) := by decide +kernel
theorem dJx4a65c_add_72be8_7 : decode cJx4a65c_add_72be8 7 = .ok (.invokevirtual 129, 3) := by decide +kernel
theorem dJx4a65c_add_72be8_10 : decode cJx4a65c_add_72be8 10 = .ok (.astore_n 2, 1) := by decide +kernel
theorem dJx4a65c_add_72be8_11 : decode cJx4a65c_add_72be8 11 = .ok (.aload_n 2, 1) := by decide +kernel
theorem dJx4a65c_add_72be8_12 : decode cJx4a65c_add_72be8 12 = .ok (.iload_n 3, 1) := by decide +kernel
theorem dJx4a65c_add_72be8_13 : decode cJx4a65c_add_72be8 13 = .ok (.aload_n 1, 1) := by decide +kernel
theorem dJx4a65c_add_72be8_14 : decode cJx4a65c_add_72be8 14 = .ok (.aastore, 1) := by decide +kernel
theorem dJx4a65c_add_72be8_15 : decode cJx4a65c_add_72be8 15 = .ok (.aload_n 0, 1) := by decide +kernel
theorem dJx4a65c_add_72be8_16 : decode cJx4a65c_add_72be8 16 = .ok (.iload_n 3, 1) := by decide +kernel
theorem dJx4a65c_add_72be8_17 : decode cJx4a65c_add_72be8 17 = .ok (.iconst 1, 1) := by decide +kernel
theorem dJx4a65c_add_72be8_18 : decode cJx4a65c_add_72be8 18 = .ok (.iadd, 1) := by decide +kernel
theorem dJx4a65c_add_72be8_19 : decode cJx4a65c_add_72be8 19 = .ok (.putfield 48, 3) := by decide +kernel
theorem dJx4a65c_add_72be8_22 : decode cJx4a65c_add_72be8 22 = .ok (.return_, 1) := by decide +kernel
theorem dJx4a65c_add_9ea2d_0 : decode cJx4a65c_add_9ea2d 0 = .ok (.aload_n 0, 1) := by decide +kernel
theorem dJx4a65c_add_9ea2d_1 : decode cJx4a65c_add_9ea2d 1 = .ok (.dup, 1) := by decide +kernel
theorem dJx4a65c_add_9ea2d_2 : decode cJx4a65c_add_9ea2d 2 = .ok (.getfield 63, 3) := by decide +kernel
theorem dJx4a65c_add_9ea2d_5 : decode cJx4a65c_add_9ea2d 5 = .ok (.iconst 1, 1) := by decide +kernel
theorem dJx4a65c_add_9ea2d_6 : decode cJx4a65c_add_9ea2d 6 = .ok (.iadd, 1) := by decide +kernel
theorem dJx4a65c_add_9ea2d_7 : decode cJx4a65c_add_9ea2d 7 = .ok (.putfield 63, 3) := by decide +kernel
theorem dJx4a65c_add_9ea2d_10 : decode cJx4a65c_add_9ea2d 10 = .ok (.aload_n 0, 1) := by decide +kernel
theorem dJx4a65c_add_9ea2d_11 : decode cJx4a65c_add_9ea2d 11 = .ok (.aload_n 1, 1) := by decide +kernel
theorem dJx4a65c_add_9ea2d_12 : decode cJx4a65c_add_9ea2d 12 = .ok (.aload_n 0, 1) := by decide +kernel
theorem dJx4a65c_add_9ea2d_13 : decode cJx4a65c_add_9ea2d 13 = .ok (.getfield 9, 3) := by decide +kernel
theorem dJx4a65c_add_9ea2d_16 : decode cJx4a65c_add_9ea2d 16 = .ok (.aload_n 0, 1) := by decide +kernel
theorem dJx4a65c_add_9ea2d_17 : decode cJx4a65c_add_9ea2d 17 = .ok (.getfield 48, 3) := by decide +kernel
theorem dJx4a65c_add_9ea2d_20 : decode cJx4a65c_add_9ea2d 20 = .ok (.invokevirtual 131, 3) := by decide +kernel
theorem dJx4a65c_add_9ea2d_23 : decode cJx4a65c_add_9ea2d 23 = .ok (.iconst 1, 1) := by decide +kernel
theorem dJx4a65c_add_9ea2d_24 : decode cJx4a65c_add_9ea2d 24 = .ok (.ireturn, 1) := by decide +kernel
theorem dJx4a65c_iterator_32c93_0 : decode cJx4a65c_iterator_32c93 0 = .ok (.new 267, 3) := by decide +kernel
theorem dJx4a65c_iterator_32c93_3 : decode cJx4a65c_iterator_32c93 3 = .ok (.dup, 1) := by decide +kernel
theorem dJx4a65c_iterator_32c93_4 : decode cJx4a65c_iterator_32c93 4 = .ok (.aload_n 0, 1) := by decide +kernel
theorem dJx4a65c_iterator_32c93_5 : decode cJx4a65c_iterator_32c93 5 = .ok (.invokespecial 269, 3) := by decide +kernel
theorem dJx4a65c_iterator_32c93_8 : decode cJx4a65c_iterator_32c93 8 = .ok (.areturn, 1) := by decide +kernel
theorem dJ7_copyOf_1904c_0 : decode cJ7_copyOf_1904c 0 = .ok (.aload_n 0, 1) := by decide +kernel
theorem dJ7_copyOf_1904c_1 : decode cJ7_copyOf_1904c 1 = .ok (.iload_n 1, 1) := by decide +kernel
theorem dJ7_copyOf_1904c_2 : decode cJ7_copyOf_1904c 2 = .ok (.aload_n 0, 1) := by decide +kernel
theorem dJ7_copyOf_1904c_3 : decode cJ7_copyOf_1904c 3 = .ok (.invokevirtual 86, 3) := by decide +kernel
theorem dJ7_copyOf_1904c_6 : decode cJ7_copyOf_1904c 6 = .ok (.invokestatic 300, 3) := by decide +kernel
theorem dJ7_copyOf_1904c_9 : decode cJ7_copyOf_1904c 9 = .ok (.areturn, 1) := by decide +kernel
theorem dJ7_copyOf_6403c_0 : decode cJ7_copyOf_6403c 0 = .ok (.aload_n 2, 1) := by decide +kernel
theorem dJ7_copyOf_6403c_1 : decode cJ7_copyOf_6403c 1 = .ok (.ldc 110, 2) := by decide +kernel
theorem dJ7_copyOf_6403c_3 : decode cJ7_copyOf_6403c 3 = .ok (.if_acmp .ne 10, 3) := by decide +kernel
theorem dJ7_copyOf_6403c_6 : decode cJ7_copyOf_6403c 6 = .ok (.iload_n 1, 1) := by decide +kernel
theorem dJ7_copyOf_6403c_7 : decode cJ7_copyOf_6403c 7 = .ok (.anewarray 2, 3) := by decide +kernel
theorem dJ7_copyOf_6403c_10 : decode cJ7_copyOf_6403c 10 = .ok (.goto 14, 3) := by decide +kernel
theorem dJ7_copyOf_6403c_13 : decode cJ7_copyOf_6403c 13 = .ok (.aload_n 2, 1) := by decide +kernel
theorem dJ7_copyOf_6403c_14 : decode cJ7_copyOf_6403c 14 = .ok (.invokevirtual 90, 3) := by decide +kernel
theorem dJ7_copyOf_6403c_17 : decode cJ7_copyOf_6403c 17 = .ok (.iload_n 1, 1) := by decide +kernel
theorem dJ7_copyOf_6403c_18 : decode cJ7_copyOf_6403c 18 = .ok (.invokestatic 95, 3) := by decide +kernel
theorem dJ7_copyOf_6403c_21 : decode cJ7_copyOf_6403c 21 = .ok (.checkcast 110, 3) := by decide +kernel
theorem dJ7_copyOf_6403c_24 : decode cJ7_copyOf_6403c 24 = .ok (.astore_n 3, 1) := by decide +kernel
theorem dJ7_copyOf_6403c_25 : decode cJ7_copyOf_6403c 25 = .ok (.aload_n 0, 1) := by decide +kernel
theorem dJ7_copyOf_6403c_26 : decode cJ7_copyOf_6403c 26 = .ok (.iconst 0, 1) := by decide +kernel
theorem dJ7_copyOf_6403c_27 : decode cJ7_copyOf_6403c 27 = .ok (.aload_n 3, 1) := by decide +kernel
theorem dJ7_copyOf_6403c_28 : decode cJ7_copyOf_6403c 28 = .ok (.iconst 0, 1) := by decide +kernel
theorem dJ7_copyOf_6403c_29 : decode cJ7_copyOf_6403c 29 = .ok (.aload_n 0, 1) := by decide +kernel
theorem dJ7_copyOf_6403c_30 : decode cJ7_copyOf_6403c 30 = .ok (.arraylength, 1) := by decide +kernel
theorem dJ7_copyOf_6403c_31 : decode cJ7_copyOf_6403c 31 = .ok (.iload_n 1, 1) := by decide +kernel
theorem dJ7_copyOf_6403c_32 : decode cJ7_copyOf_6403c 32 = .ok (.invokestatic 304, 3) := by decide +kernel
theorem dJ7_copyOf_6403c_35 : decode cJ7_copyOf_6403c 35 = .ok (.invokestatic 150, 3) := by decide +kernel
theorem dJ7_copyOf_6403c_38 : decode cJ7_copyOf_6403c 38 = .ok (.aload_n 3, 1) := by decide +kernel
theorem dJ7_copyOf_6403c_39 : decode cJ7_copyOf_6403c 39 = .ok (.areturn, 1) := by decide +kernel
theorem dJ15_checkIndex_7cf53_0 : decode cJ15_checkIndex_7cf53 0 = .ok (.iload_n 0, 1) := by decide +kernel
theorem dJ15_checkIndex_7cf53_1 : decode cJ15_checkIndex_7cf53 1 = .ok (.iload_n 1, 1) := by decide +kernel
theorem dJ15_checkIndex_7cf53_2 : decode cJ15_checkIndex_7cf53 2 = .ok (.aconst_null, 1) := by decide +kernel
theorem dJ15_checkIndex_7cf53_3 : decode cJ15_checkIndex_7cf53 3 = .ok (.invokestatic 105, 3) := by decide +kernel
theorem dJ15_checkIndex_7cf53_6 : decode cJ15_checkIndex_7cf53 6 = .ok (.ireturn, 1) := by decide +kernel
theorem dJ8_newLength_cabcc_0 : decode cJ8_newLength_cabcc 0 = .ok (.iload_n 0, 1) := by decide +kernel
theorem dJ8_newLength_cabcc_1 : decode cJ8_newLength_cabcc 1 = .ok (.iload_n 1, 1) := by decide +kernel
theorem dJ8_newLength_cabcc_2 : decode cJ8_newLength_cabcc 2 = .ok (.iload_n 2, 1) := by decide +kernel
theorem dJ8_newLength_cabcc_3 : decode cJ8_newLength_cabcc 3 = .ok (.invokestatic 194, 3) := by decide +kernel
theorem dJ8_newLength_cabcc_6 : decode cJ8_newLength_cabcc 6 = .ok (.iadd, 1) := by decide +kernel
theorem dJ8_newLength_cabcc_7 : decode cJ8_newLength_cabcc 7 = .ok (.istore_n 3, 1) := by decide +kernel
theorem dJ8_newLength_cabcc_8 : decode cJ8_newLength_cabcc 8 = .ok (.iconst 0, 1) := by decide +kernel
theorem dJ8_newLength_cabcc_9 : decode cJ8_newLength_cabcc 9 = .ok (.iload_n 3, 1) := by decide +kernel
theorem dJ8_newLength_cabcc_10 : decode cJ8_newLength_cabcc 10 = .ok (.if_icmp .ge 11, 3) := by decide +kernel
theorem dJ8_newLength_cabcc_13 : decode cJ8_newLength_cabcc 13 = .ok (.iload_n 3, 1) := by decide +kernel
theorem dJ8_newLength_cabcc_14 : decode cJ8_newLength_cabcc 14 = .ok (.ldc 200, 2) := by decide +kernel
theorem dJ8_newLength_cabcc_16 : decode cJ8_newLength_cabcc 16 = .ok (.if_icmp .gt 5, 3) := by decide +kernel
theorem dJ8_newLength_cabcc_19 : decode cJ8_newLength_cabcc 19 = .ok (.iload_n 3, 1) := by decide +kernel
theorem dJ8_newLength_cabcc_20 : decode cJ8_newLength_cabcc 20 = .ok (.ireturn, 1) := by decide +kernel
theorem dJ8_newLength_cabcc_21 : decode cJ8_newLength_cabcc 21 = .ok (.iload_n 0, 1) := by decide +kernel
theorem dJ8_newLength_cabcc_22 : decode cJ8_newLength_cabcc 22 = .ok (.iload_n 1, 1) := by decide +kernel
theorem dJ8_newLength_cabcc_23 : decode cJ8_newLength_cabcc 23 = .ok (.invokestatic 201, 3) := by decide +kernel
theorem dJ8_newLength_cabcc_26 : decode cJ8_newLength_cabcc 26 = .ok (.ireturn, 1) := by decide +kernel
theorem dJ8_hugeLength_7cf53_0 : decode cJ8_hugeLength_7cf53 0 = .ok (.iload_n 0, 1) := by decide +kernel
theorem dJ8_hugeLength_7cf53_1 : decode cJ8_hugeLength_7cf53 1 = .ok (.iload_n 1, 1) := by decide +kernel
theorem dJ8_hugeLength_7cf53_2 : decode cJ8_hugeLength_7cf53 2 = .ok (.iadd, 1) := by decide +kernel
theorem dJ8_hugeLength_7cf53_3 : decode cJ8_hugeLength_7cf53 3 = .ok (.istore_n 2, 1) := by decide +kernel
theorem dJ8_hugeLength_7cf53_4 : decode cJ8_hugeLength_7cf53 4 = .ok (.iload_n 2, 1) := by decide +kernel
theorem dJ8_hugeLength_7cf53_5 : decode cJ8_hugeLength_7cf53 5 = .ok (.ifCond .ge 44, 3) := by decide +kernel
theorem dJ8_hugeLength_7cf53_8 : decode cJ8_hugeLength_7cf53 8 = .ok (.new 204, 3) := by decide +kernel
theorem dJ8_hugeLength_7cf53_11 : decode cJ8_hugeLength_7cf53 11 = .ok (.dup, 1) := by decide +kernel
theorem dJ8_hugeLength_7cf53_12 : decode cJ8_hugeLength_7cf53 12 = .ok (.new 89, 3) := by decide +kernel
theorem dJ8_hugeLength_7cf53_15 : decode cJ8_hugeLength_7cf53 15 = .ok (.dup, 1) := by decide +kernel
theorem dJ8_hugeLength_7cf53_16 : decode cJ8_hugeLength_7cf53 16 = .ok (.invokespecial 91, 3) := by decide +kernel
theorem dJ8_hugeLength_7cf53_19 : decode cJ8_hugeLength_7cf53 19 = .ok (.ldc 206, 2) := by decide +kernel
theorem dJ8_hugeLength_7cf53_21 : decode cJ8_hugeLength_7cf53 21 = .ok (.invokevirtual 94, 3) := by decide +kernel
theorem dJ8_hugeLength_7cf53_24 : decode cJ8_hugeLength_7cf53 24 = .ok (.iload_n 0, 1) := by decide +kernel
theorem dJ8_hugeLength_7cf53_25 : decode cJ8_hugeLength_7cf53 25 = .ok (.invokevirtual 98, 3) := by decide +kernel
theorem dJ8_hugeLength_7cf53_28 : decode cJ8_hugeLength_7cf53 28 = .ok (.ldc 208, 2) := by decide +kernel
theorem dJ8_hugeLength_7cf53_30 : decode cJ8_hugeLength_7cf53 30 = .ok (.invokevirtual 94, 3) := by decide +kernel
theorem dJ8_hugeLength_7cf53_33 : decode cJ8_hugeLength_7cf53 33 = .ok (.iload_n 1, 1) := by decide +kernel
theorem dJ8_hugeLength_7cf53_34 : decode cJ8_hugeLength_7cf53 34 = .ok (.invokevirtual 98, 3) := by decide +kernel
theorem dJ8_hugeLength_7cf53_37 : decode cJ8_hugeLength_7cf53 37 = .ok (.ldc 210, 2) := by decide +kernel
theorem dJ8_hugeLength_7cf53_39 : decode cJ8_hugeLength_7cf53 39 = .ok (.invokevirtual 94, 3) := by decide +kernel
theorem dJ8_hugeLength_7cf53_42 : decode cJ8_hugeLength_7cf53 42 = .ok (.invokevirtual 101, 3) := by decide +kernel
theorem dJ8_hugeLength_7cf53_45 : decode cJ8_hugeLength_7cf53 45 = .ok (.invokespecial 212, 3) := by decide +kernel
theorem dJ8_hugeLength_7cf53_48 : decode cJ8_hugeLength_7cf53 48 = .ok (.athrow, 1) := by decide +kernel
theorem dJ8_hugeLength_7cf53_49 : decode cJ8_hugeLength_7cf53 49 = .ok (.iload_n 2, 1) := by decide +kernel
theorem dJ8_hugeLength_7cf53_50 : decode cJ8_hugeLength_7cf53 50 = .ok (.ldc 200, 2) := by decide +kernel
theorem dJ8_hugeLength_7cf53_52 : decode cJ8_hugeLength_7cf53 52 = .ok (.if_icmp .gt 6, 3) := by decide +kernel
theorem dJ8_hugeLength_7cf53_55 : decode cJ8_hugeLength_7cf53 55 = .ok (.ldc 200, 2) := by decide +kernel
theorem dJ8_hugeLength_7cf53_57 : decode cJ8_hugeLength_7cf53 57 = .ok (.ireturn, 1) := by decide +kernel
theorem dJ8_hugeLength_7cf53_58 : decode cJ8_hugeLength_7cf53 58 = .ok (.iload_n 2, 1) := by decide +kernel
theorem dJ8_hugeLength_7cf53_59 : decode cJ8_hugeLength_7cf53 59 = .ok (.ireturn, 1) := by decide +kernel
theorem dJ3_checkIndex_8e157_0 : decode cJ3_checkIndex_8e157 0 = .ok (.iload_n 0, 1) := by decide +kernel
theorem dJ3_checkIndex_8e157_1 : decode cJ3_checkIndex_8e157 1 = .ok (.ifCond .lt 8, 3) := by decide +kernel
theorem dJ3_checkIndex_8e157_4 : decode cJ3_checkIndex_8e157 4 = .ok (.iload_n 0, 1) := by decide +kernel
theorem dJ3_checkIndex_8e157_5 : decode cJ3_checkIndex_8e157 5 = .ok (.iload_n 1, 1) := by decide +kernel
theorem dJ3_checkIndex_8e157_6 : decode cJ3_checkIndex_8e157 6 = .ok (.if_icmp .lt 10, 3) := by decide +kernel
theorem dJ3_checkIndex_8e157_9 : decode cJ3_checkIndex_8e157 9 = .ok (.aload_n 2, 1) := by decide +kernel
theorem dJ3_checkIndex_8e157_10 : decode cJ3_checkIndex_8e157 10 = .ok (.iload_n 0, 1) := by decide +kernel
theorem dJ3_checkIndex_8e157_11 : decode cJ3_checkIndex_8e157 11 = .ok (.iload_n 1, 1) := by decide +kernel
theorem dJ3_checkIndex_8e157_12 : decode cJ3_checkIndex_8e157 12 = .ok (.invokestatic 95, 3) := by decide +kernel
theorem dJ3_checkIndex_8e157_15 : decode cJ3_checkIndex_8e157 15 = .ok (.athrow, 1) := by decide +kernel
theorem dJ3_checkIndex_8e157_16 : decode cJ3_checkIndex_8e157 16 = .ok (.iload_n 0, 1) := by decide +kernel
theorem dJ3_checkIndex_8e157_17 : decode cJ3_checkIndex_8e157 17 = .ok (.ireturn, 1) := by decide +kernel
theorem dJ3_checkFromToIndex_8c36e_0 : decode cJ3_checkFromToIndex_8c36e 0 = .ok (.iload_n 0, 1) := by decide +kernel
theorem dJ3_checkFromToIndex_8c36e_1 : decode cJ3_checkFromToIndex_8c36e 1 = .ok (.ifCond .lt 13, 3) := by decide +kernel
theorem dJ3_checkFromToIndex_8c36e_4 : decode cJ3_checkFromToIndex_8c36e 4 = .ok (.iload_n 0, 1) := by decide +kernel
theorem dJ3_checkFromToIndex_8c36e_5 : decode cJ3_checkFromToIndex_8c36e 5 = .ok (.iload_n 1, 1) := by decide +kernel
theorem dJ3_checkFromToIndex_8c36e_6 : decode cJ3_checkFromToIndex_8c36e 6 = .ok (.if_icmp .gt 8, 3) := by decide +kernel
theorem dJ3_checkFromToIndex_8c36e_9 : decode cJ3_checkFromToIndex_8c36e 9 = .ok (.iload_n 1, 1) := by decide +kernel
theorem dJ3_checkFromToIndex_8c36e_10 : decode cJ3_checkFromToIndex_8c36e 10 = .ok (.iload_n 2, 1) := by decide +kernel
theorem dJ3_checkFromToIndex_8c36e_11 : decode cJ3_checkFromToIndex_8c36e 11 = .ok (.if_icmp .le 11, 3) := by decide +kernel
theorem dJ3_checkFromToIndex_8c36e_14 : decode cJ3_checkFromToIndex_8c36e 14 = .ok (.aload_n 3, 1) := by decide +kernel
theorem dJ3_checkFromToIndex_8c36e_15 : decode cJ3_checkFromToIndex_8c36e 15 = .ok (.iload_n 0, 1) := by decide +kernel
theorem dJ3_checkFromToIndex_8c36e_16 : decode cJ3_checkFromToIndex_8c36e 16 = .ok (.iload_n 1, 1) := by decide +kernel
theorem dJ3_checkFromToIndex_8c36e_17 : decode cJ3_checkFromToIndex_8c36e 17 = .ok (.iload_n 2, 1) := by decide +kernel
theorem dJ3_checkFromToIndex_8c36e_18 : decode cJ3_checkFromToIndex_8c36e 18 = .ok (.invokestatic 99, 3) := by decide +kernel
theorem dJ3_checkFromToIndex_8c36e_21 : decode cJ3_checkFromToIndex_8c36e 21 = .ok (.athrow, 1) := by decide +kernel
theorem dJ3_checkFromToIndex_8c36e_22 : decode cJ3_checkFromToIndex_8c36e 22 = .ok (.iload_n 0, 1) := by decide +kernel
theorem dJ3_checkFromToIndex_8c36e_23 : decode cJ3_checkFromToIndex_8c36e 23 = .ok (.ireturn, 1) := by decide +kernel
theorem dL_addLine_0 : decode cL_addLine 0 = .ok (.aload_n 2, 1) := by decide +kernel
theorem dL_addLine_1 : decode cL_addLine 1 = .ok (.iconst 0, 1) := by decide +kernel
theorem dL_addLine_2 : decode cL_addLine 2 = .ok (.aload_n 0, 1) := by decide +kernel
theorem dL_addLine_3 : decode cL_addLine 3 = .ok (.iload_n 1, 1) := by decide +kernel
theorem dL_addLine_4 : decode cL_addLine 4 = .ok (.invokevirtual 7, 3) := by decide +kernel
theorem dL_addLine_7 : decode cL_addLine 7 = .ok (.i2l, 1) := by decide +kernel
theorem dL_addLine_8 : decode cL_addLine 8 = .ok (.lastore, 1) := by decide +kernel
theorem dL_addLine_9 : decode cL_addLine 9 = .ok (.goto 9, 3) := by decide +kernel
theorem dL_addLine_12 : decode cL_addLine 12 = .ok (.astore_n 3, 1) := by decide +kernel
theorem dL_addLine_13 : decode cL_addLine 13 = .ok (.iconst 1, 1) := by decide +kernel
theorem dL_addLine_14 : decode cL_addLine 14 = .ok (.ireturn, 1) := by decide +kernel
theorem dL_addLine_15 : decode cL_addLine 15 = .ok (.astore_n 3, 1) := by decide +kernel
theorem dL_addLine_16 : decode cL_addLine 16 = .ok (.iconst 2, 1) := by decide +kernel
theorem dL_addLine_17 : decode cL_addLine 17 = .ok (.ireturn, 1) := by decide +kernel
theorem dL_addLine_18 : decode cL_addLine 18 = .ok (.iconst 0, 1) := by decide +kernel
theorem dL_addLine_19 : decode cL_addLine 19 = .ok (.ireturn, 1) := by decide +kernel
theorem dL_addPart_0 : decode cL_addPart 0 = .ok (.aload 4, 2) := by decide +kernel
theorem dL_addPart_2 : decode cL_addPart 2 = .ok (.iconst 0, 1) := by decide +kernel
theorem dL_addPart_3 : decode cL_addPart 3 = .ok (.aload_n 0, 1) := by decide +kernel
theorem dL_addPart_4 : decode cL_addPart 4 = .ok (.iload_n 1, 1) := by decide +kernel
theorem dL_addPart_5 : decode cL_addPart 5 = .ok (.iload_n 2, 1) := by decide +kernel
theorem dL_addPart_6 : decode cL_addPart 6 = .ok (.iload_n 3, 1) := by decide +kernel
theorem dL_addPart_7 : decode cL_addPart 7 = .ok (.invokevirtual 17, 3) := by decide +kernel
theorem dL_addPart_10 : decode cL_addPart 10 = .ok (.i2l, 1) := by decide +kernel
theorem dL_addPart_11 : decode cL_addPart 11 = .ok (.lastore, 1) := by decide +kernel
theorem dL_addPart_12 : decode cL_addPart 12 = .ok (.goto 15, 3) := by decide +kernel
theorem dL_addPart_15 : decode cL_addPart 15 = .ok (.astore 5, 2) := by decide +kernel
theorem dL_addPart_17 : decode cL_addPart 17 = .ok (.iconst 1, 1) := by decide +kernel
theorem dL_addPart_18 : decode cL_addPart 18 = .ok (.ireturn, 1) := by decide +kernel
theorem dL_addPart_19 : decode cL_addPart 19 = .ok (.astore 5, 2) := by decide +kernel
theorem dL_addPart_21 : decode cL_addPart 21 = .ok (.iconst 2, 1) := by decide +kernel
theorem dL_addPart_22 : decode cL_addPart 22 = .ok (.ireturn, 1) := by decide +kernel
theorem dL_addPart_23 : decode cL_addPart 23 = .ok (.astore 5, 2) := by decide +kernel
theorem dL_addPart_25 : decode cL_addPart 25 = .ok (.iconst 3, 1) := by decide +kernel
theorem dL_addPart_26 : decode cL_addPart 26 = .ok (.ireturn, 1) := by decide +kernel
theorem dL_addPart_27 : decode cL_addPart 27 = .ok (.iconst 0, 1) := by decide +kernel
theorem dL_addPart_28 : decode cL_addPart 28 = .ok (.ireturn, 1) := by decide +kernel
theorem dL_setLength_0 : decode cL_setLength 0 = .ok (.aload 4, 2) := by decide +kernel
theorem dL_setLength_2 : decode cL_setLength 2 = .ok (.iconst 0, 1) := by decide +kernel
theorem dL_setLength_3 : decode cL_setLength 3 = .ok (.aload_n 0, 1) := by decide +kernel
theorem dL_setLength_4 : decode cL_setLength 4 = .ok (.iload_n 1, 1) := by decide +kernel
theorem dL_setLength_5 : decode cL_setLength 5 = .ok (.iload_n 2, 1) := by decide +kernel
theorem dL_setLength_6 : decode cL_setLength 6 = .ok (.iload_n 3, 1) := by decide +kernel
theorem dL_setLength_7 : decode cL_setLength 7 = .ok (.invokevirtual 23, 3) := by decide +kernel
theorem dL_setLength_10 : decode cL_setLength 10 = .ok (.i2l, 1) := by decide +kernel
theorem dL_setLength_11 : decode cL_setLength 11 = .ok (.lastore, 1) := by decide +kernel
theorem dL_setLength_12 : decode cL_setLength 12 = .ok (.goto 15, 3) := by decide +kernel
theorem dL_setLength_15 : decode cL_setLength 15 = .ok (.astore 5, 2) := by decide +kernel
theorem dL_setLength_17 : decode cL_setLength 17 = .ok (.iconst 1, 1) := by decide +kernel
theorem dL_setLength_18 : decode cL_setLength 18 = .ok (.ireturn, 1) := by decide +kernel
theorem dL_setLength_19 : decode cL_setLength 19 = .ok (.astore 5, 2) := by decide +kernel
theorem dL_setLength_21 : decode cL_setLength 21 = .ok (.iconst 2, 1) := by decide +kernel
theorem dL_setLength_22 : decode cL_setLength 22 = .ok (.ireturn, 1) := by decide +kernel
theorem dL_setLength_23 : decode cL_setLength 23 = .ok (.astore 5, 2) := by decide +kernel
theorem dL_setLength_25 : decode cL_setLength 25 = .ok (.iconst 3, 1) := by decide +kernel
theorem dL_setLength_26 : decode cL_setLength 26 = .ok (.ireturn, 1) := by decide +kernel
theorem dL_setLength_27 : decode cL_setLength 27 = .ok (.iconst 0, 1) := by decide +kernel
theorem dL_setLength_28 : decode cL_setLength 28 = .ok (.ireturn, 1) := by decide +kernel
theorem dL_length_0 : decode cL_length 0 = .ok (.aload_n 2, 1) := by decide +kernel
theorem dL_length_1 : decode cL_length 1 = .ok (.iconst 0, 1) := by decide +kernel
theorem dL_length_2 : decode cL_length 2 = .ok (.aload_n 0, 1) := by decide +kernel
theorem dL_length_3 : decode cL_length 3 = .ok (.iload_n 1, 1) := by decide +kernel
theorem dL_length_4 : decode cL_length 4 = .ok (.invokevirtual 29, 3) := by decide +kernel
theorem dL_length_7 : decode cL_length 7 = .ok (.i2l, 1) := by decide +kernel
theorem dL_length_8 : decode cL_length 8 = .ok (.lastore, 1) := by decide +kernel
theorem dL_length_9 : decode cL_length 9 = .ok (.goto 6, 3) := by decide +kernel
theorem dL_length_12 : decode cL_length 12 = .ok (.astore_n 3, 1) := by decide +kernel
theorem dL_length_13 : decode cL_length 13 = .ok (.iconst 1, 1) := by decide +kernel
theorem dL_length_14 : decode cL_length 14 = .ok (.ireturn, 1) := by decide +kernel
theorem dL_length_15 : decode cL_length 15 = .ok (.iconst 0, 1) := by decide +kernel
theorem dL_length_16 : decode cL_length 16 = .ok (.ireturn, 1) := by decide +kernel
theorem dL_spools_0 : decode cL_spools 0 = .ok (.aload_n 2, 1) := by decide +kernel
theorem dL_spools_1 : decode cL_spools 1 = .ok (.iconst 0, 1) := by decide +kernel
theorem dL_spools_2 : decode cL_spools 2 = .ok (.aload_n 0, 1) := by decide +kernel
theorem dL_spools_3 : decode cL_spools 3 = .ok (.iload_n 1, 1) := by decide +kernel
theorem dL_spools_4 : decode cL_spools 4 = .ok (.invokevirtual 32, 3) := by decide +kernel
theorem dL_spools_7 : decode cL_spools 7 = .ok (.i2l, 1) := by decide +kernel
theorem dL_spools_8 : decode cL_spools 8 = .ok (.lastore, 1) := by decide +kernel
theorem dL_spools_9 : decode cL_spools 9 = .ok (.goto 6, 3) := by decide +kernel
theorem dL_spools_12 : decode cL_spools 12 = .ok (.astore_n 3, 1) := by decide +kernel
theorem dL_spools_13 : decode cL_spools 13 = .ok (.iconst 1, 1) := by decide +kernel
theorem dL_spools_14 : decode cL_spools 14 = .ok (.ireturn, 1) := by decide +kernel
theorem dL_spools_15 : decode cL_spools 15 = .ok (.iconst 0, 1) := by decide +kernel
theorem dL_spools_16 : decode cL_spools 16 = .ok (.ireturn, 1) := by decide +kernel
theorem dL_spoolOf_0 : decode cL_spoolOf 0 = .ok (.aload_n 3, 1) := by decide +kernel
theorem dL_spoolOf_1 : decode cL_spoolOf 1 = .ok (.iconst 0, 1) := by decide +kernel
theorem dL_spoolOf_2 : decode cL_spoolOf 2 = .ok (.aload_n 0, 1) := by decide +kernel
theorem dL_spoolOf_3 : decode cL_spoolOf 3 = .ok (.iload_n 1, 1) := by decide +kernel
theorem dL_spoolOf_4 : decode cL_spoolOf 4 = .ok (.iload_n 2, 1) := by decide +kernel
theorem dL_spoolOf_5 : decode cL_spoolOf 5 = .ok (.invokevirtual 35, 3) := by decide +kernel
theorem dL_spoolOf_8 : decode cL_spoolOf 8 = .ok (.i2l, 1) := by decide +kernel
theorem dL_spoolOf_9 : decode cL_spoolOf 9 = .ok (.lastore, 1) := by decide +kernel
theorem dL_spoolOf_10 : decode cL_spoolOf 10 = .ok (.goto 7, 3) := by decide +kernel
theorem dL_spoolOf_13 : decode cL_spoolOf 13 = .ok (.astore 4, 2) := by decide +kernel
theorem dL_spoolOf_15 : decode cL_spoolOf 15 = .ok (.iconst 1, 1) := by decide +kernel
theorem dL_spoolOf_16 : decode cL_spoolOf 16 = .ok (.ireturn, 1) := by decide +kernel
theorem dL_spoolOf_17 : decode cL_spoolOf 17 = .ok (.iconst 0, 1) := by decide +kernel
theorem dL_spoolOf_18 : decode cL_spoolOf 18 = .ok (.ireturn, 1) := by decide +kernel
theorem dL_isField_0 : decode cL_isField 0 = .ok (.aload_n 3, 1) := by decide +kernel
theorem dL_isField_1 : decode cL_isField 1 = .ok (.iconst 0, 1) := by decide +kernel
theorem dL_isField_2 : decode cL_isField 2 = .ok (.aload_n 0, 1) := by decide +kernel
theorem dL_isField_3 : decode cL_isField 3 = .ok (.iload_n 1, 1) := by decide +kernel
theorem dL_isField_4 : decode cL_isField 4 = .ok (.iload_n 2, 1) := by decide +kernel
theorem dL_isField_5 : decode cL_isField 5 = .ok (.invokevirtual 39, 3) := by decide +kernel
theorem dL_isField_8 : decode cL_isField 8 = .ok (.ifCond .eq 7, 3) := by decide +kernel
theorem dL_isField_11 : decode cL_isField 11 = .ok (.lconst 1, 1) := by decide +kernel
theorem dL_isField_12 : decode cL_isField 12 = .ok (.goto 4, 3) := by decide +kernel
theorem dL_isField_15 : decode cL_isField 15 = .ok (.lconst 0, 1) := by decide +kernel
theorem dL_isField_16 : decode cL_isField 16 = .ok (.lastore, 1) := by decide +kernel
theorem dL_isField_17 : decode cL_isField 17 = .ok (.goto 7, 3) := by decide +kernel
theorem dL_isField_20 : decode cL_isField 20 = .ok (.astore 4, 2) := by decide +kernel
theorem dL_isField_22 : decode cL_isField 22 = .ok (.iconst 1, 1) := by decide +kernel
theorem dL_isField_23 : decode cL_isField 23 = .ok (.ireturn, 1) := by decide +kernel
theorem dL_isField_24 : decode cL_isField 24 = .ok (.iconst 0, 1) := by decide +kernel
theorem dL_isField_25 : decode cL_isField 25 = .ok (.ireturn, 1) := by decide +kernel
theorem dL_addHeat_0 : decode cL_addHeat 0 = .ok (.aload 4, 2) := by decide +kernel
theorem dL_addHeat_2 : decode cL_addHeat 2 = .ok (.iconst 0, 1) := by decide +kernel
theorem dL_addHeat_3 : decode cL_addHeat 3 = .ok (.aload_n 0, 1) := by decide +kernel
theorem dL_addHeat_4 : decode cL_addHeat 4 = .ok (.iload_n 1, 1) := by decide +kernel
theorem dL_addHeat_5 : decode cL_addHeat 5 = .ok (.iload_n 2, 1) := by decide +kernel
theorem dL_addHeat_6 : decode cL_addHeat 6 = .ok (.iload_n 3, 1) := by decide +kernel
theorem dL_addHeat_7 : decode cL_addHeat 7 = .ok (.invokevirtual 43, 3) := by decide +kernel
theorem dL_addHeat_10 : decode cL_addHeat 10 = .ok (.i2l, 1) := by decide +kernel
theorem dL_addHeat_11 : decode cL_addHeat 11 = .ok (.lastore, 1) := by decide +kernel
theorem dL_addHeat_12 : decode cL_addHeat 12 = .ok (.goto 11, 3) := by decide +kernel
theorem dL_addHeat_15 : decode cL_addHeat 15 = .ok (.astore 5, 2) := by decide +kernel
theorem dL_addHeat_17 : decode cL_addHeat 17 = .ok (.iconst 1, 1) := by decide +kernel
theorem dL_addHeat_18 : decode cL_addHeat 18 = .ok (.ireturn, 1) := by decide +kernel
theorem dL_addHeat_19 : decode cL_addHeat 19 = .ok (.astore 5, 2) := by decide +kernel
theorem dL_addHeat_21 : decode cL_addHeat 21 = .ok (.iconst 2, 1) := by decide +kernel
theorem dL_addHeat_22 : decode cL_addHeat 22 = .ok (.ireturn, 1) := by decide +kernel
theorem dL_addHeat_23 : decode cL_addHeat 23 = .ok (.iconst 0, 1) := by decide +kernel
theorem dL_addHeat_24 : decode cL_addHeat 24 = .ok (.ireturn, 1) := by decide +kernel
theorem dL_left_0 : decode cL_left 0 = .ok (.aload_n 2, 1) := by decide +kernel
theorem dL_left_1 : decode cL_left 1 = .ok (.iconst 0, 1) := by decide +kernel
theorem dL_left_2 : decode cL_left 2 = .ok (.aload_n 0, 1) := by decide +kernel
theorem dL_left_3 : decode cL_left 3 = .ok (.iload_n 1, 1) := by decide +kernel
theorem dL_left_4 : decode cL_left 4 = .ok (.invokevirtual 47, 3) := by decide +kernel
theorem dL_left_7 : decode cL_left 7 = .ok (.i2l, 1) := by decide +kernel
theorem dL_left_8 : decode cL_left 8 = .ok (.lastore, 1) := by decide +kernel
theorem dL_left_9 : decode cL_left 9 = .ok (.goto 6, 3) := by decide +kernel
theorem dL_left_12 : decode cL_left 12 = .ok (.astore_n 3, 1) := by decide +kernel
theorem dL_left_13 : decode cL_left 13 = .ok (.iconst 1, 1) := by decide +kernel
theorem dL_left_14 : decode cL_left 14 = .ok (.ireturn, 1) := by decide +kernel
theorem dL_left_15 : decode cL_left 15 = .ok (.iconst 0, 1) := by decide +kernel
theorem dL_left_16 : decode cL_left 16 = .ok (.ireturn, 1) := by decide +kernel
theorem dL_losePaper_0 : decode cL_losePaper 0 = .ok (.aload_n 2, 1) := by decide +kernel
theorem dL_losePaper_1 : decode cL_losePaper 1 = .ok (.iconst 0, 1) := by decide +kernel
theorem dL_losePaper_2 : decode cL_losePaper 2 = .ok (.aload_n 0, 1) := by decide +kernel
theorem dL_losePaper_3 : decode cL_losePaper 3 = .ok (.iload_n 1, 1) := by decide +kernel
theorem dL_losePaper_4 : decode cL_losePaper 4 = .ok (.invokevirtual 50, 3) := by decide +kernel
theorem dL_losePaper_7 : decode cL_losePaper 7 = .ok (.ifCond .eq 7, 3) := by decide +kernel
theorem dL_losePaper_10 : decode cL_losePaper 10 = .ok (.lconst 1, 1) := by decide +kernel
theorem dL_losePaper_11 : decode cL_losePaper 11 = .ok (.goto 4, 3) := by decide +kernel
theorem dL_losePaper_14 : decode cL_losePaper 14 = .ok (.lconst 0, 1) := by decide +kernel
theorem dL_losePaper_15 : decode cL_losePaper 15 = .ok (.lastore, 1) := by decide +kernel
theorem dL_losePaper_16 : decode cL_losePaper 16 = .ok (.goto 6, 3) := by decide +kernel
theorem dL_losePaper_19 : decode cL_losePaper 19 = .ok (.astore_n 3, 1) := by decide +kernel
theorem dL_losePaper_20 : decode cL_losePaper 20 = .ok (.iconst 1, 1) := by decide +kernel
theorem dL_losePaper_21 : decode cL_losePaper 21 = .ok (.ireturn, 1) := by decide +kernel
theorem dL_losePaper_22 : decode cL_losePaper 22 = .ok (.iconst 0, 1) := by decide +kernel
theorem dL_losePaper_23 : decode cL_losePaper 23 = .ok (.ireturn, 1) := by decide +kernel
theorem dL_test_0 : decode cL_test 0 = .ok (.aload_n 2, 1) := by decide +kernel
theorem dL_test_1 : decode cL_test 1 = .ok (.iconst 0, 1) := by decide +kernel
theorem dL_test_2 : decode cL_test 2 = .ok (.aload_n 0, 1) := by decide +kernel
theorem dL_test_3 : decode cL_test 3 = .ok (.iload_n 1, 1) := by decide +kernel
theorem dL_test_4 : decode cL_test 4 = .ok (.invokevirtual 54, 3) := by decide +kernel
theorem dL_test_7 : decode cL_test 7 = .ok (.ifCond .eq 7, 3) := by decide +kernel
theorem dL_test_10 : decode cL_test 10 = .ok (.lconst 1, 1) := by decide +kernel
theorem dL_test_11 : decode cL_test 11 = .ok (.goto 4, 3) := by decide +kernel
theorem dL_test_14 : decode cL_test 14 = .ok (.lconst 0, 1) := by decide +kernel
theorem dL_test_15 : decode cL_test 15 = .ok (.lastore, 1) := by decide +kernel
theorem dL_test_16 : decode cL_test 16 = .ok (.goto 6, 3) := by decide +kernel
theorem dL_test_19 : decode cL_test 19 = .ok (.astore_n 3, 1) := by decide +kernel
theorem dL_test_20 : decode cL_test 20 = .ok (.iconst 1, 1) := by decide +kernel
theorem dL_test_21 : decode cL_test 21 = .ok (.ireturn, 1) := by decide +kernel
theorem dL_test_22 : decode cL_test 22 = .ok (.iconst 0, 1) := by decide +kernel
theorem dL_test_23 : decode cL_test 23 = .ok (.ireturn, 1) := by decide +kernel
theorem dL_give_0 : decode cL_give 0 = .ok (.aload 4, 2) := by decide +kernel
theorem dL_give_2 : decode cL_give 2 = .ok (.iconst 0, 1) := by decide +kernel
theorem dL_give_3 : decode cL_give 3 = .ok (.aload_n 0, 1) := by decide +kernel
theorem dL_give_4 : decode cL_give 4 = .ok (.iload_n 1, 1) := by decide +kernel
theorem dL_give_5 : decode cL_give 5 = .ok (.iload_n 2, 1) := by decide +kernel
theorem dL_give_6 : decode cL_give 6 = .ok (.iload_n 3, 1) := by decide +kernel
theorem dL_give_7 : decode cL_give 7 = .ok (.invokevirtual 57, 3) := by decide +kernel
theorem dL_give_10 : decode cL_give 10 = .ok (.i2l, 1) := by decide +kernel
theorem dL_give_11 : decode cL_give 11 = .ok (.lastore, 1) := by decide +kernel
theorem dL_give_12 : decode cL_give 12 = .ok (.goto 11, 3) := by decide +kernel
theorem dL_give_15 : decode cL_give 15 = .ok (.astore 5, 2) := by decide +kernel
theorem dL_give_17 : decode cL_give 17 = .ok (.iconst 1, 1) := by decide +kernel
theorem dL_give_18 : decode cL_give 18 = .ok (.ireturn, 1) := by decide +kernel
theorem dL_give_19 : decode cL_give 19 = .ok (.astore 5, 2) := by decide +kernel
theorem dL_give_21 : decode cL_give 21 = .ok (.iconst 2, 1) := by decide +kernel
theorem dL_give_22 : decode cL_give 22 = .ok (.ireturn, 1) := by decide +kernel
theorem dL_give_23 : decode cL_give 23 = .ok (.iconst 0, 1) := by decide +kernel
theorem dL_give_24 : decode cL_give 24 = .ok (.ireturn, 1) := by decide +kernel
theorem dL_heatOf_0 : decode cL_heatOf 0 = .ok (.aload_n 3, 1) := by decide +kernel
theorem dL_heatOf_1 : decode cL_heatOf 1 = .ok (.iconst 0, 1) := by decide +kernel
theorem dL_heatOf_2 : decode cL_heatOf 2 = .ok (.aload_n 0, 1) := by decide +kernel
theorem dL_heatOf_3 : decode cL_heatOf 3 = .ok (.iload_n 1, 1) := by decide +kernel
theorem dL_heatOf_4 : decode cL_heatOf 4 = .ok (.iload_n 2, 1) := by decide +kernel
theorem dL_heatOf_5 : decode cL_heatOf 5 = .ok (.invokevirtual 60, 3) := by decide +kernel
theorem dL_heatOf_8 : decode cL_heatOf 8 = .ok (.i2l, 1) := by decide +kernel
theorem dL_heatOf_9 : decode cL_heatOf 9 = .ok (.lastore, 1) := by decide +kernel
theorem dL_heatOf_10 : decode cL_heatOf 10 = .ok (.goto 11, 3) := by decide +kernel
theorem dL_heatOf_13 : decode cL_heatOf 13 = .ok (.astore 4, 2) := by decide +kernel
theorem dL_heatOf_15 : decode cL_heatOf 15 = .ok (.iconst 1, 1) := by decide +kernel
theorem dL_heatOf_16 : decode cL_heatOf 16 = .ok (.ireturn, 1) := by decide +kernel
theorem dL_heatOf_17 : decode cL_heatOf 17 = .ok (.astore 4, 2) := by decide +kernel
theorem dL_heatOf_19 : decode cL_heatOf 19 = .ok (.iconst 2, 1) := by decide +kernel
theorem dL_heatOf_20 : decode cL_heatOf 20 = .ok (.ireturn, 1) := by decide +kernel
theorem dL_heatOf_21 : decode cL_heatOf 21 = .ok (.iconst 0, 1) := by decide +kernel
theorem dL_heatOf_22 : decode cL_heatOf 22 = .ok (.ireturn, 1) := by decide +kernel
theorem dL_bestHeat_0 : decode cL_bestHeat 0 = .ok (.aload 4, 2) := by decide +kernel
theorem dL_bestHeat_2 : decode cL_bestHeat 2 = .ok (.iconst 0, 1) := by decide +kernel
theorem dL_bestHeat_3 : decode cL_bestHeat 3 = .ok (.aload_n 0, 1) := by decide +kernel
theorem dL_bestHeat_4 : decode cL_bestHeat 4 = .ok (.iload_n 1, 1) := by decide +kernel
theorem dL_bestHeat_5 : decode cL_bestHeat 5 = .ok (.iload_n 2, 1) := by decide +kernel
theorem dL_bestHeat_6 : decode cL_bestHeat 6 = .ok (.iload_n 3, 1) := by decide +kernel
theorem dL_bestHeat_7 : decode cL_bestHeat 7 = .ok (.invokevirtual 65, 3) := by decide +kernel
theorem dL_bestHeat_10 : decode cL_bestHeat 10 = .ok (.i2l, 1) := by decide +kernel
theorem dL_bestHeat_11 : decode cL_bestHeat 11 = .ok (.lastore, 1) := by decide +kernel
theorem dL_bestHeat_12 : decode cL_bestHeat 12 = .ok (.goto 15, 3) := by decide +kernel
theorem dL_bestHeat_15 : decode cL_bestHeat 15 = .ok (.astore 5, 2) := by decide +kernel
theorem dL_bestHeat_17 : decode cL_bestHeat 17 = .ok (.iconst 1, 1) := by decide +kernel
theorem dL_bestHeat_18 : decode cL_bestHeat 18 = .ok (.ireturn, 1) := by decide +kernel
theorem dL_bestHeat_19 : decode cL_bestHeat 19 = .ok (.astore 5, 2) := by decide +kernel
theorem dL_bestHeat_21 : decode cL_bestHeat 21 = .ok (.iconst 2, 1) := by decide +kernel
theorem dL_bestHeat_22 : decode cL_bestHeat 22 = .ok (.ireturn, 1) := by decide +kernel
theorem dL_bestHeat_23 : decode cL_bestHeat 23 = .ok (.astore 5, 2) := by decide +kernel
theorem dL_bestHeat_25 : decode cL_bestHeat 25 = .ok (.iconst 3, 1) := by decide +kernel
theorem dL_bestHeat_26 : decode cL_bestHeat 26 = .ok (.ireturn, 1) := by decide +kernel
theorem dL_bestHeat_27 : decode cL_bestHeat 27 = .ok (.iconst 0, 1) := by decide +kernel
theorem dL_bestHeat_28 : decode cL_bestHeat 28 = .ok (.ireturn, 1) := by decide +kernel
theorem dL_addWelder_0 : decode cL_addWelder 0 = .ok (.aload_n 1, 1) := by decide +kernel
theorem dL_addWelder_1 : decode cL_addWelder 1 = .ok (.iconst 0, 1) := by decide +kernel
theorem dL_addWelder_2 : decode cL_addWelder 2 = .ok (.aload_n 0, 1) := by decide +kernel
theorem dL_addWelder_3 : decode cL_addWelder 3 = .ok (.invokevirtual 68, 3) := by decide +kernel
theorem dL_addWelder_6 : decode cL_addWelder 6 = .ok (.i2l, 1) := by decide +kernel
theorem dL_addWelder_7 : decode cL_addWelder 7 = .ok (.lastore, 1) := by decide +kernel
theorem dL_addWelder_8 : decode cL_addWelder 8 = .ok (.goto 6, 3) := by decide +kernel
theorem dL_addWelder_11 : decode cL_addWelder 11 = .ok (.astore_n 2, 1) := by decide +kernel
theorem dL_addWelder_12 : decode cL_addWelder 12 = .ok (.iconst 1, 1) := by decide +kernel
theorem dL_addWelder_13 : decode cL_addWelder 13 = .ok (.ireturn, 1) := by decide +kernel
theorem dL_addWelder_14 : decode cL_addWelder 14 = .ok (.iconst 0, 1) := by decide +kernel
theorem dL_addWelder_15 : decode cL_addWelder 15 = .ok (.ireturn, 1) := by decide +kernel
theorem dL_ticket_0 : decode cL_ticket 0 = .ok (.aload 4, 2) := by decide +kernel
theorem dL_ticket_2 : decode cL_ticket 2 = .ok (.iconst 0, 1) := by decide +kernel
theorem dL_ticket_3 : decode cL_ticket 3 = .ok (.aload_n 0, 1) := by decide +kernel
theorem dL_ticket_4 : decode cL_ticket 4 = .ok (.iload_n 1, 1) := by decide +kernel
theorem dL_ticket_5 : decode cL_ticket 5 = .ok (.iload_n 2, 1) := by decide +kernel
theorem dL_ticket_6 : decode cL_ticket 6 = .ok (.iload_n 3, 1) := by decide +kernel
theorem dL_ticket_7 : decode cL_ticket 7 = .ok (.invokevirtual 72, 3) := by decide +kernel
theorem dL_ticket_10 : decode cL_ticket 10 = .ok (.i2l, 1) := by decide +kernel
theorem dL_ticket_11 : decode cL_ticket 11 = .ok (.lastore, 1) := by decide +kernel
theorem dL_ticket_12 : decode cL_ticket 12 = .ok (.goto 11, 3) := by decide +kernel
theorem dL_ticket_15 : decode cL_ticket 15 = .ok (.astore 5, 2) := by decide +kernel
theorem dL_ticket_17 : decode cL_ticket 17 = .ok (.iconst 1, 1) := by decide +kernel
theorem dL_ticket_18 : decode cL_ticket 18 = .ok (.ireturn, 1) := by decide +kernel
theorem dL_ticket_19 : decode cL_ticket 19 = .ok (.astore 5, 2) := by decide +kernel
theorem dL_ticket_21 : decode cL_ticket 21 = .ok (.iconst 2, 1) := by decide +kernel
theorem dL_ticket_22 : decode cL_ticket 22 = .ok (.ireturn, 1) := by decide +kernel
theorem dL_ticket_23 : decode cL_ticket 23 = .ok (.iconst 0, 1) := by decide +kernel
theorem dL_ticket_24 : decode cL_ticket 24 = .ok (.ireturn, 1) := by decide +kernel
theorem dL_mayWeld_0 : decode cL_mayWeld 0 = .ok (.aload 4, 2) := by decide +kernel
theorem dL_mayWeld_2 : decode cL_mayWeld 2 = .ok (.iconst 0, 1) := by decide +kernel
theorem dL_mayWeld_3 : decode cL_mayWeld 3 = .ok (.aload_n 0, 1) := by decide +kernel
theorem dL_mayWeld_4 : decode cL_mayWeld 4 = .ok (.iload_n 1, 1) := by decide +kernel
theorem dL_mayWeld_5 : decode cL_mayWeld 5 = .ok (.iload_n 2, 1) := by decide +kernel
theorem dL_mayWeld_6 : decode cL_mayWeld 6 = .ok (.iload_n 3, 1) := by decide +kernel
theorem dL_mayWeld_7 : decode cL_mayWeld 7 = .ok (.invokevirtual 75, 3) := by decide +kernel
theorem dL_mayWeld_10 : decode cL_mayWeld 10 = .ok (.ifCond .eq 7, 3) := by decide +kernel
theorem dL_mayWeld_13 : decode cL_mayWeld 13 = .ok (.lconst 1, 1) := by decide +kernel
theorem dL_mayWeld_14 : decode cL_mayWeld 14 = .ok (.goto 4, 3) := by decide +kernel
theorem dL_mayWeld_17 : decode cL_mayWeld 17 = .ok (.lconst 0, 1) := by decide +kernel
theorem dL_mayWeld_18 : decode cL_mayWeld 18 = .ok (.lastore, 1) := by decide +kernel
theorem dL_mayWeld_19 : decode cL_mayWeld 19 = .ok (.goto 7, 3) := by decide +kernel
theorem dL_mayWeld_22 : decode cL_mayWeld 22 = .ok (.astore 5, 2) := by decide +kernel
theorem dL_mayWeld_24 : decode cL_mayWeld 24 = .ok (.iconst 1, 1) := by decide +kernel
theorem dL_mayWeld_25 : decode cL_mayWeld 25 = .ok (.ireturn, 1) := by decide +kernel
theorem dL_mayWeld_26 : decode cL_mayWeld 26 = .ok (.iconst 0, 1) := by decide +kernel
theorem dL_mayWeld_27 : decode cL_mayWeld 27 = .ok (.ireturn, 1) := by decide +kernel
theorem dL_weld_0 : decode cL_weld 0 = .ok (.aload 4, 2) := by decide +kernel
theorem dL_weld_2 : decode cL_weld 2 = .ok (.iconst 0, 1) := by decide +kernel
theorem dL_weld_3 : decode cL_weld 3 = .ok (.aload_n 0, 1) := by decide +kernel
theorem dL_weld_4 : decode cL_weld 4 = .ok (.iload_n 1, 1) := by decide +kernel
theorem dL_weld_5 : decode cL_weld 5 = .ok (.iload_n 2, 1) := by decide +kernel
theorem dL_weld_6 : decode cL_weld 6 = .ok (.iload_n 3, 1) := by decide +kernel
theorem dL_weld_7 : decode cL_weld 7 = .ok (.invokevirtual 79, 3) := by decide +kernel
theorem dL_weld_10 : decode cL_weld 10 = .ok (.i2l, 1) := by decide +kernel
theorem dL_weld_11 : decode cL_weld 11 = .ok (.lastore, 1) := by decide +kernel
theorem dL_weld_12 : decode cL_weld 12 = .ok (.goto 11, 3) := by decide +kernel
theorem dL_weld_15 : decode cL_weld 15 = .ok (.astore 5, 2) := by decide +kernel
theorem dL_weld_17 : decode cL_weld 17 = .ok (.iconst 1, 1) := by decide +kernel
theorem dL_weld_18 : decode cL_weld 18 = .ok (.ireturn, 1) := by decide +kernel
theorem dL_weld_19 : decode cL_weld 19 = .ok (.astore 5, 2) := by decide +kernel
theorem dL_weld_21 : decode cL_weld 21 = .ok (.iconst 2, 1) := by decide +kernel
theorem dL_weld_22 : decode cL_weld 22 = .ok (.ireturn, 1) := by decide +kernel
theorem dL_weld_23 : decode cL_weld 23 = .ok (.iconst 0, 1) := by decide +kernel
theorem dL_weld_24 : decode cL_weld 24 = .ok (.ireturn, 1) := by decide +kernel
theorem dL_look_0 : decode cL_look 0 = .ok (.aload 4, 2) := by decide +kernel
theorem dL_look_2 : decode cL_look 2 = .ok (.iconst 0, 1) := by decide +kernel
theorem dL_look_3 : decode cL_look 3 = .ok (.aload_n 0, 1) := by decide +kernel
theorem dL_look_4 : decode cL_look 4 = .ok (.iload_n 1, 1) := by decide +kernel
theorem dL_look_5 : decode cL_look 5 = .ok (.iload_n 2, 1) := by decide +kernel
theorem dL_look_6 : decode cL_look 6 = .ok (.iload_n 3, 1) := by decide +kernel
theorem dL_look_7 : decode cL_look 7 = .ok (.invokevirtual 82, 3) := by decide +kernel
theorem dL_look_10 : decode cL_look 10 = .ok (.i2l, 1) := by decide +kernel
theorem dL_look_11 : decode cL_look 11 = .ok (.lastore, 1) := by decide +kernel
theorem dL_look_12 : decode cL_look 12 = .ok (.goto 11, 3) := by decide +kernel
theorem dL_look_15 : decode cL_look 15 = .ok (.astore 5, 2) := by decide +kernel
theorem dL_look_17 : decode cL_look 17 = .ok (.iconst 1, 1) := by decide +kernel
theorem dL_look_18 : decode cL_look 18 = .ok (.ireturn, 1) := by decide +kernel
theorem dL_look_19 : decode cL_look 19 = .ok (.astore 5, 2) := by decide +kernel
theorem dL_look_21 : decode cL_look 21 = .ok (.iconst 2, 1) := by decide +kernel
theorem dL_look_22 : decode cL_look 22 = .ok (.ireturn, 1) := by decide +kernel
theorem dL_look_23 : decode cL_look 23 = .ok (.iconst 0, 1) := by decide +kernel
theorem dL_look_24 : decode cL_look 24 = .ok (.ireturn, 1) := by decide +kernel
theorem dL_repair_0 : decode cL_repair 0 = .ok (.aload 4, 2) := by decide +kernel
theorem dL_repair_2 : decode cL_repair 2 = .ok (.iconst 0, 1) := by decide +kernel
theorem dL_repair_3 : decode cL_repair 3 = .ok (.aload_n 0, 1) := by decide +kernel
theorem dL_repair_4 : decode cL_repair 4 = .ok (.iload_n 1, 1) := by decide +kernel
theorem dL_repair_5 : decode cL_repair 5 = .ok (.iload_n 2, 1) := by decide +kernel
theorem dL_repair_6 : decode cL_repair 6 = .ok (.iload_n 3, 1) := by decide +kernel
theorem dL_repair_7 : decode cL_repair 7 = .ok (.invokevirtual 86, 3) := by decide +kernel
theorem dL_repair_10 : decode cL_repair 10 = .ok (.i2l, 1) := by decide +kernel
theorem dL_repair_11 : decode cL_repair 11 = .ok (.lastore, 1) := by decide +kernel
theorem dL_repair_12 : decode cL_repair 12 = .ok (.goto 11, 3) := by decide +kernel
theorem dL_repair_15 : decode cL_repair 15 = .ok (.astore 5, 2) := by decide +kernel
theorem dL_repair_17 : decode cL_repair 17 = .ok (.iconst 1, 1) := by decide +kernel
theorem dL_repair_18 : decode cL_repair 18 = .ok (.ireturn, 1) := by decide +kernel
theorem dL_repair_19 : decode cL_repair 19 = .ok (.astore 5, 2) := by decide +kernel
theorem dL_repair_21 : decode cL_repair 21 = .ok (.iconst 2, 1) := by decide +kernel
theorem dL_repair_22 : decode cL_repair 22 = .ok (.ireturn, 1) := by decide +kernel
theorem dL_repair_23 : decode cL_repair 23 = .ok (.iconst 0, 1) := by decide +kernel
theorem dL_repair_24 : decode cL_repair 24 = .ok (.ireturn, 1) := by decide +kernel
theorem dL_cutOut_0 : decode cL_cutOut 0 = .ok (.aload_n 3, 1) := by decide +kernel
theorem dL_cutOut_1 : decode cL_cutOut 1 = .ok (.iconst 0, 1) := by decide +kernel
theorem dL_cutOut_2 : decode cL_cutOut 2 = .ok (.aload_n 0, 1) := by decide +kernel
theorem dL_cutOut_3 : decode cL_cutOut 3 = .ok (.iload_n 1, 1) := by decide +kernel
theorem dL_cutOut_4 : decode cL_cutOut 4 = .ok (.iload_n 2, 1) := by decide +kernel
theorem dL_cutOut_5 : decode cL_cutOut 5 = .ok (.invokevirtual 89, 3) := by decide +kernel
theorem dL_cutOut_8 : decode cL_cutOut 8 = .ok (.i2l, 1) := by decide +kernel
theorem dL_cutOut_9 : decode cL_cutOut 9 = .ok (.lastore, 1) := by decide +kernel
theorem dL_cutOut_10 : decode cL_cutOut 10 = .ok (.goto 11, 3) := by decide +kernel
theorem dL_cutOut_13 : decode cL_cutOut 13 = .ok (.astore 4, 2) := by decide +kernel
theorem dL_cutOut_15 : decode cL_cutOut 15 = .ok (.iconst 1, 1) := by decide +kernel
theorem dL_cutOut_16 : decode cL_cutOut 16 = .ok (.ireturn, 1) := by decide +kernel
theorem dL_cutOut_17 : decode cL_cutOut 17 = .ok (.astore 4, 2) := by decide +kernel
theorem dL_cutOut_19 : decode cL_cutOut 19 = .ok (.iconst 2, 1) := by decide +kernel
theorem dL_cutOut_20 : decode cL_cutOut 20 = .ok (.ireturn, 1) := by decide +kernel
theorem dL_cutOut_21 : decode cL_cutOut 21 = .ok (.iconst 0, 1) := by decide +kernel
theorem dL_cutOut_22 : decode cL_cutOut 22 = .ok (.ireturn, 1) := by decide +kernel
theorem dL_joint_0 : decode cL_joint 0 = .ok (.aload_n 3, 1) := by decide +kernel
theorem dL_joint_1 : decode cL_joint 1 = .ok (.iconst 0, 1) := by decide +kernel
theorem dL_joint_2 : decode cL_joint 2 = .ok (.aload_n 0, 1) := by decide +kernel
theorem dL_joint_3 : decode cL_joint 3 = .ok (.iload_n 1, 1) := by decide +kernel
theorem dL_joint_4 : decode cL_joint 4 = .ok (.iload_n 2, 1) := by decide +kernel
theorem dL_joint_5 : decode cL_joint 5 = .ok (.invokevirtual 92, 3) := by decide +kernel
theorem dL_joint_8 : decode cL_joint 8 = .ok (.i2l, 1) := by decide +kernel
theorem dL_joint_9 : decode cL_joint 9 = .ok (.lastore, 1) := by decide +kernel
theorem dL_joint_10 : decode cL_joint 10 = .ok (.goto 7, 3) := by decide +kernel
theorem dL_joint_13 : decode cL_joint 13 = .ok (.astore 4, 2) := by decide +kernel
theorem dL_joint_15 : decode cL_joint 15 = .ok (.iconst 1, 1) := by decide +kernel
theorem dL_joint_16 : decode cL_joint 16 = .ok (.ireturn, 1) := by decide +kernel
theorem dL_joint_17 : decode cL_joint 17 = .ok (.iconst 0, 1) := by decide +kernel
theorem dL_joint_18 : decode cL_joint 18 = .ok (.ireturn, 1) := by decide +kernel
theorem dL_welderOf_0 : decode cL_welderOf 0 = .ok (.aload_n 3, 1) := by decide +kernel
theorem dL_welderOf_1 : decode cL_welderOf 1 = .ok (.iconst 0, 1) := by decide +kernel
theorem dL_welderOf_2 : decode cL_welderOf 2 = .ok (.aload_n 0, 1) := by decide +kernel
theorem dL_welderOf_3 : decode cL_welderOf 3 = .ok (.iload_n 1, 1) := by decide +kernel
theorem dL_welderOf_4 : decode cL_welderOf 4 = .ok (.iload_n 2, 1) := by decide +kernel
theorem dL_welderOf_5 : decode cL_welderOf 5 = .ok (.invokevirtual 96, 3) := by decide +kernel
theorem dL_welderOf_8 : decode cL_welderOf 8 = .ok (.i2l, 1) := by decide +kernel
theorem dL_welderOf_9 : decode cL_welderOf 9 = .ok (.lastore, 1) := by decide +kernel
theorem dL_welderOf_10 : decode cL_welderOf 10 = .ok (.goto 11, 3) := by decide +kernel
theorem dL_welderOf_13 : decode cL_welderOf 13 = .ok (.astore 4, 2) := by decide +kernel
theorem dL_welderOf_15 : decode cL_welderOf 15 = .ok (.iconst 1, 1) := by decide +kernel
theorem dL_welderOf_16 : decode cL_welderOf 16 = .ok (.ireturn, 1) := by decide +kernel
theorem dL_welderOf_17 : decode cL_welderOf 17 = .ok (.astore 4, 2) := by decide +kernel
theorem dL_welderOf_19 : decode cL_welderOf 19 = .ok (.iconst 2, 1) := by decide +kernel
theorem dL_welderOf_20 : decode cL_welderOf 20 = .ok (.ireturn, 1) := by decide +kernel
theorem dL_welderOf_21 : decode cL_welderOf 21 = .ok (.iconst 0, 1) := by decide +kernel
theorem dL_welderOf_22 : decode cL_welderOf 22 = .ok (.ireturn, 1) := by decide +kernel
theorem dL_toLook_0 : decode cL_toLook 0 = .ok (.aload_n 2, 1) := by decide +kernel
theorem dL_toLook_1 : decode cL_toLook 1 = .ok (.iconst 0, 1) := by decide +kernel
theorem dL_toLook_2 : decode cL_toLook 2 = .ok (.aload_n 0, 1) := by decide +kernel
theorem dL_toLook_3 : decode cL_toLook 3 = .ok (.iload_n 1, 1) := by decide +kernel
theorem dL_toLook_4 : decode cL_toLook 4 = .ok (.invokevirtual 99, 3) := by decide +kernel
theorem dL_toLook_7 : decode cL_toLook 7 = .ok (.i2l, 1) := by decide +kernel
theorem dL_toLook_8 : decode cL_toLook 8 = .ok (.lastore, 1) := by decide +kernel
theorem dL_toLook_9 : decode cL_toLook 9 = .ok (.goto 6, 3) := by decide +kernel
theorem dL_toLook_12 : decode cL_toLook 12 = .ok (.astore_n 3, 1) := by decide +kernel
theorem dL_toLook_13 : decode cL_toLook 13 = .ok (.iconst 1, 1) := by decide +kernel
theorem dL_toLook_14 : decode cL_toLook 14 = .ok (.ireturn, 1) := by decide +kernel
theorem dL_toLook_15 : decode cL_toLook 15 = .ok (.iconst 0, 1) := by decide +kernel
theorem dL_toLook_16 : decode cL_toLook 16 = .ok (.ireturn, 1) := by decide +kernel
theorem dL_failed_0 : decode cL_failed 0 = .ok (.aload_n 2, 1) := by decide +kernel
theorem dL_failed_1 : decode cL_failed 1 = .ok (.iconst 0, 1) := by decide +kernel
theorem dL_failed_2 : decode cL_failed 2 = .ok (.aload_n 0, 1) := by decide +kernel
theorem dL_failed_3 : decode cL_failed 3 = .ok (.iload_n 1, 1) := by decide +kernel
theorem dL_failed_4 : decode cL_failed 4 = .ok (.invokevirtual 102, 3) := by decide +kernel
theorem dL_failed_7 : decode cL_failed 7 = .ok (.i2l, 1) := by decide +kernel
theorem dL_failed_8 : decode cL_failed 8 = .ok (.lastore, 1) := by decide +kernel
theorem dL_failed_9 : decode cL_failed 9 = .ok (.goto 6, 3) := by decide +kernel
theorem dL_failed_12 : decode cL_failed 12 = .ok (.astore_n 3, 1) := by decide +kernel
theorem dL_failed_13 : decode cL_failed 13 = .ok (.iconst 1, 1) := by decide +kernel
theorem dL_failed_14 : decode cL_failed 14 = .ok (.ireturn, 1) := by decide +kernel
theorem dL_failed_15 : decode cL_failed 15 = .ok (.iconst 0, 1) := by decide +kernel
theorem dL_failed_16 : decode cL_failed 16 = .ok (.ireturn, 1) := by decide +kernel
theorem dL_pass_0 : decode cL_pass 0 = .ok (.aload_n 2, 1) := by decide +kernel
theorem dL_pass_1 : decode cL_pass 1 = .ok (.iconst 0, 1) := by decide +kernel
theorem dL_pass_2 : decode cL_pass 2 = .ok (.aload_n 0, 1) := by decide +kernel
theorem dL_pass_3 : decode cL_pass 3 = .ok (.iload_n 1, 1) := by decide +kernel
theorem dL_pass_4 : decode cL_pass 4 = .ok (.invokevirtual 105, 3) := by decide +kernel
theorem dL_pass_7 : decode cL_pass 7 = .ok (.i2l, 1) := by decide +kernel
theorem dL_pass_8 : decode cL_pass 8 = .ok (.lastore, 1) := by decide +kernel
theorem dL_pass_9 : decode cL_pass 9 = .ok (.goto 9, 3) := by decide +kernel
theorem dL_pass_12 : decode cL_pass 12 = .ok (.astore_n 3, 1) := by decide +kernel
theorem dL_pass_13 : decode cL_pass 13 = .ok (.iconst 1, 1) := by decide +kernel
theorem dL_pass_14 : decode cL_pass 14 = .ok (.ireturn, 1) := by decide +kernel
theorem dL_pass_15 : decode cL_pass 15 = .ok (.astore_n 3, 1) := by decide +kernel
theorem dL_pass_16 : decode cL_pass 16 = .ok (.iconst 2, 1) := by decide +kernel
theorem dL_pass_17 : decode cL_pass 17 = .ok (.ireturn, 1) := by decide +kernel
theorem dL_pass_18 : decode cL_pass 18 = .ok (.iconst 0, 1) := by decide +kernel
theorem dL_pass_19 : decode cL_pass 19 = .ok (.ireturn, 1) := by decide +kernel
theorem dL_join_0 : decode cL_join 0 = .ok (.aload 5, 2) := by decide +kernel
theorem dL_join_2 : decode cL_join 2 = .ok (.iconst 0, 1) := by decide +kernel
theorem dL_join_3 : decode cL_join 3 = .ok (.aload_n 0, 1) := by decide +kernel
theorem dL_join_4 : decode cL_join 4 = .ok (.iload_n 1, 1) := by decide +kernel
theorem dL_join_5 : decode cL_join 5 = .ok (.iload_n 2, 1) := by decide +kernel
theorem dL_join_6 : decode cL_join 6 = .ok (.iload_n 3, 1) := by decide +kernel
theorem dL_join_7 : decode cL_join 7 = .ok (.iload 4, 2) := by decide +kernel
theorem dL_join_9 : decode cL_join 9 = .ok (.invokevirtual 108, 3) := by decide +kernel
theorem dL_join_12 : decode cL_join 12 = .ok (.ifCond .eq 7, 3) := by decide +kernel
theorem dL_join_15 : decode cL_join 15 = .ok (.lconst 1, 1) := by decide +kernel
theorem dL_join_16 : decode cL_join 16 = .ok (.goto 4, 3) := by decide +kernel
theorem dL_join_19 : decode cL_join 19 = .ok (.lconst 0, 1) := by decide +kernel
theorem dL_join_20 : decode cL_join 20 = .ok (.lastore, 1) := by decide +kernel
theorem dL_join_21 : decode cL_join 21 = .ok (.goto 15, 3) := by decide +kernel
theorem dL_join_24 : decode cL_join 24 = .ok (.astore 6, 2) := by decide +kernel
theorem dL_join_26 : decode cL_join 26 = .ok (.iconst 1, 1) := by decide +kernel
theorem dL_join_27 : decode cL_join 27 = .ok (.ireturn, 1) := by decide +kernel
theorem dL_join_28 : decode cL_join 28 = .ok (.astore 6, 2) := by decide +kernel
theorem dL_join_30 : decode cL_join 30 = .ok (.iconst 2, 1) := by decide +kernel
theorem dL_join_31 : decode cL_join 31 = .ok (.ireturn, 1) := by decide +kernel
theorem dL_join_32 : decode cL_join 32 = .ok (.astore 6, 2) := by decide +kernel
theorem dL_join_34 : decode cL_join 34 = .ok (.iconst 3, 1) := by decide +kernel
theorem dL_join_35 : decode cL_join 35 = .ok (.ireturn, 1) := by decide +kernel
theorem dL_join_36 : decode cL_join 36 = .ok (.iconst 0, 1) := by decide +kernel
theorem dL_join_37 : decode cL_join 37 = .ok (.ireturn, 1) := by decide +kernel
theorem dL_blind_0 : decode cL_blind 0 = .ok (.aload 4, 2) := by decide +kernel
theorem dL_blind_2 : decode cL_blind 2 = .ok (.iconst 0, 1) := by decide +kernel
theorem dL_blind_3 : decode cL_blind 3 = .ok (.aload_n 0, 1) := by decide +kernel
theorem dL_blind_4 : decode cL_blind 4 = .ok (.iload_n 1, 1) := by decide +kernel
theorem dL_blind_5 : decode cL_blind 5 = .ok (.iload_n 2, 1) := by decide +kernel
theorem dL_blind_6 : decode cL_blind 6 = .ok (.iload_n 3, 1) := by decide +kernel
theorem dL_blind_7 : decode cL_blind 7 = .ok (.invokevirtual 112, 3) := by decide +kernel
theorem dL_blind_10 : decode cL_blind 10 = .ok (.ifCond .eq 7, 3) := by decide +kernel
theorem dL_blind_13 : decode cL_blind 13 = .ok (.lconst 1, 1) := by decide +kernel
theorem dL_blind_14 : decode cL_blind 14 = .ok (.goto 4, 3) := by decide +kernel
theorem dL_blind_17 : decode cL_blind 17 = .ok (.lconst 0, 1) := by decide +kernel
theorem dL_blind_18 : decode cL_blind 18 = .ok (.lastore, 1) := by decide +kernel
theorem dL_blind_19 : decode cL_blind 19 = .ok (.goto 11, 3) := by decide +kernel
theorem dL_blind_22 : decode cL_blind 22 = .ok (.astore 5, 2) := by decide +kernel
theorem dL_blind_24 : decode cL_blind 24 = .ok (.iconst 1, 1) := by decide +kernel
theorem dL_blind_25 : decode cL_blind 25 = .ok (.ireturn, 1) := by decide +kernel
theorem dL_blind_26 : decode cL_blind 26 = .ok (.astore 5, 2) := by decide +kernel
theorem dL_blind_28 : decode cL_blind 28 = .ok (.iconst 2, 1) := by decide +kernel
theorem dL_blind_29 : decode cL_blind 29 = .ok (.ireturn, 1) := by decide +kernel
theorem dL_blind_30 : decode cL_blind 30 = .ok (.iconst 0, 1) := by decide +kernel
theorem dL_blind_31 : decode cL_blind 31 = .ok (.ireturn, 1) := by decide +kernel
theorem dL_addCircuit_0 : decode cL_addCircuit 0 = .ok (.aload_n 2, 1) := by decide +kernel
theorem dL_addCircuit_1 : decode cL_addCircuit 1 = .ok (.iconst 0, 1) := by decide +kernel
theorem dL_addCircuit_2 : decode cL_addCircuit 2 = .ok (.aload_n 0, 1) := by decide +kernel
theorem dL_addCircuit_3 : decode cL_addCircuit 3 = .ok (.iload_n 1, 1) := by decide +kernel
theorem dL_addCircuit_4 : decode cL_addCircuit 4 = .ok (.invokevirtual 116, 3) := by decide +kernel
theorem dL_addCircuit_7 : decode cL_addCircuit 7 = .ok (.i2l, 1) := by decide +kernel
theorem dL_addCircuit_8 : decode cL_addCircuit 8 = .ok (.lastore, 1) := by decide +kernel
theorem dL_addCircuit_9 : decode cL_addCircuit 9 = .ok (.goto 9, 3) := by decide +kernel
theorem dL_addCircuit_12 : decode cL_addCircuit 12 = .ok (.astore_n 3, 1) := by decide +kernel
theorem dL_addCircuit_13 : decode cL_addCircuit 13 = .ok (.iconst 1, 1) := by decide +kernel
theorem dL_addCircuit_14 : decode cL_addCircuit 14 = .ok (.ireturn, 1) := by decide +kernel
theorem dL_addCircuit_15 : decode cL_addCircuit 15 = .ok (.astore_n 3, 1) := by decide +kernel
theorem dL_addCircuit_16 : decode cL_addCircuit 16 = .ok (.iconst 2, 1) := by decide +kernel
theorem dL_addCircuit_17 : decode cL_addCircuit 17 = .ok (.ireturn, 1) := by decide +kernel
theorem dL_addCircuit_18 : decode cL_addCircuit 18 = .ok (.iconst 0, 1) := by decide +kernel
theorem dL_addCircuit_19 : decode cL_addCircuit 19 = .ok (.ireturn, 1) := by decide +kernel
theorem dL_open_0 : decode cL_open 0 = .ok (.aload_n 2, 1) := by decide +kernel
theorem dL_open_1 : decode cL_open 1 = .ok (.iconst 0, 1) := by decide +kernel
theorem dL_open_2 : decode cL_open 2 = .ok (.aload_n 0, 1) := by decide +kernel
theorem dL_open_3 : decode cL_open 3 = .ok (.iload_n 1, 1) := by decide +kernel
theorem dL_open_4 : decode cL_open 4 = .ok (.invokevirtual 119, 3) := by decide +kernel
theorem dL_open_7 : decode cL_open 7 = .ok (.i2l, 1) := by decide +kernel
theorem dL_open_8 : decode cL_open 8 = .ok (.lastore, 1) := by decide +kernel
theorem dL_open_9 : decode cL_open 9 = .ok (.goto 6, 3) := by decide +kernel
theorem dL_open_12 : decode cL_open 12 = .ok (.astore_n 3, 1) := by decide +kernel
theorem dL_open_13 : decode cL_open 13 = .ok (.iconst 1, 1) := by decide +kernel
theorem dL_open_14 : decode cL_open 14 = .ok (.ireturn, 1) := by decide +kernel
theorem dL_open_15 : decode cL_open 15 = .ok (.iconst 0, 1) := by decide +kernel
theorem dL_open_16 : decode cL_open 16 = .ok (.ireturn, 1) := by decide +kernel
theorem dL_canTest_0 : decode cL_canTest 0 = .ok (.aload_n 2, 1) := by decide +kernel
theorem dL_canTest_1 : decode cL_canTest 1 = .ok (.iconst 0, 1) := by decide +kernel
theorem dL_canTest_2 : decode cL_canTest 2 = .ok (.aload_n 0, 1) := by decide +kernel
theorem dL_canTest_3 : decode cL_canTest 3 = .ok (.iload_n 1, 1) := by decide +kernel
theorem dL_canTest_4 : decode cL_canTest 4 = .ok (.invokevirtual 122, 3) := by decide +kernel
theorem dL_canTest_7 : decode cL_canTest 7 = .ok (.ifCond .eq 7, 3) := by decide +kernel
theorem dL_canTest_10 : decode cL_canTest 10 = .ok (.lconst 1, 1) := by decide +kernel
theorem dL_canTest_11 : decode cL_canTest 11 = .ok (.goto 4, 3) := by decide +kernel
theorem dL_canTest_14 : decode cL_canTest 14 = .ok (.lconst 0, 1) := by decide +kernel
theorem dL_canTest_15 : decode cL_canTest 15 = .ok (.lastore, 1) := by decide +kernel
theorem dL_canTest_16 : decode cL_canTest 16 = .ok (.goto 6, 3) := by decide +kernel
theorem dL_canTest_19 : decode cL_canTest 19 = .ok (.astore_n 3, 1) := by decide +kernel
theorem dL_canTest_20 : decode cL_canTest 20 = .ok (.iconst 1, 1) := by decide +kernel
theorem dL_canTest_21 : decode cL_canTest 21 = .ok (.ireturn, 1) := by decide +kernel
theorem dL_canTest_22 : decode cL_canTest 22 = .ok (.iconst 0, 1) := by decide +kernel
theorem dL_canTest_23 : decode cL_canTest 23 = .ok (.ireturn, 1) := by decide +kernel
theorem dL_testAll_0 : decode cL_testAll 0 = .ok (.aload_n 2, 1) := by decide +kernel
theorem dL_testAll_1 : decode cL_testAll 1 = .ok (.iconst 0, 1) := by decide +kernel
theorem dL_testAll_2 : decode cL_testAll 2 = .ok (.aload_n 0, 1) := by decide +kernel
theorem dL_testAll_3 : decode cL_testAll 3 = .ok (.iload_n 1, 1) := by decide +kernel
theorem dL_testAll_4 : decode cL_testAll 4 = .ok (.invokevirtual 125, 3) := by decide +kernel
theorem dL_testAll_7 : decode cL_testAll 7 = .ok (.i2l, 1) := by decide +kernel
theorem dL_testAll_8 : decode cL_testAll 8 = .ok (.lastore, 1) := by decide +kernel
theorem dL_testAll_9 : decode cL_testAll 9 = .ok (.goto 9, 3) := by decide +kernel
theorem dL_testAll_12 : decode cL_testAll 12 = .ok (.astore_n 3, 1) := by decide +kernel
theorem dL_testAll_13 : decode cL_testAll 13 = .ok (.iconst 1, 1) := by decide +kernel
theorem dL_testAll_14 : decode cL_testAll 14 = .ok (.ireturn, 1) := by decide +kernel
theorem dL_testAll_15 : decode cL_testAll 15 = .ok (.astore_n 3, 1) := by decide +kernel
theorem dL_testAll_16 : decode cL_testAll 16 = .ok (.iconst 2, 1) := by decide +kernel
theorem dL_testAll_17 : decode cL_testAll 17 = .ok (.ireturn, 1) := by decide +kernel
theorem dL_testAll_18 : decode cL_testAll 18 = .ok (.iconst 0, 1) := by decide +kernel
theorem dL_testAll_19 : decode cL_testAll 19 = .ok (.ireturn, 1) := by decide +kernel
theorem dL_isTested_0 : decode cL_isTested 0 = .ok (.aload_n 2, 1) := by decide +kernel
theorem dL_isTested_1 : decode cL_isTested 1 = .ok (.iconst 0, 1) := by decide +kernel
theorem dL_isTested_2 : decode cL_isTested 2 = .ok (.aload_n 0, 1) := by decide +kernel
theorem dL_isTested_3 : decode cL_isTested 3 = .ok (.iload_n 1, 1) := by decide +kernel
theorem dL_isTested_4 : decode cL_isTested 4 = .ok (.invokevirtual 128, 3) := by decide +kernel
theorem dL_isTested_7 : decode cL_isTested 7 = .ok (.ifCond .eq 7, 3) := by decide +kernel
theorem dL_isTested_10 : decode cL_isTested 10 = .ok (.lconst 1, 1) := by decide +kernel
theorem dL_isTested_11 : decode cL_isTested 11 = .ok (.goto 4, 3) := by decide +kernel
theorem dL_isTested_14 : decode cL_isTested 14 = .ok (.lconst 0, 1) := by decide +kernel
theorem dL_isTested_15 : decode cL_isTested 15 = .ok (.lastore, 1) := by decide +kernel
theorem dL_isTested_16 : decode cL_isTested 16 = .ok (.goto 6, 3) := by decide +kernel
theorem dL_isTested_19 : decode cL_isTested 19 = .ok (.astore_n 3, 1) := by decide +kernel
theorem dL_isTested_20 : decode cL_isTested 20 = .ok (.iconst 1, 1) := by decide +kernel
theorem dL_isTested_21 : decode cL_isTested 21 = .ok (.ireturn, 1) := by decide +kernel
theorem dL_isTested_22 : decode cL_isTested 22 = .ok (.iconst 0, 1) := by decide +kernel
theorem dL_isTested_23 : decode cL_isTested 23 = .ok (.ireturn, 1) := by decide +kernel
theorem dL_lack_0 : decode cL_lack 0 = .ok (.aload_n 3, 1) := by decide +kernel
theorem dL_lack_1 : decode cL_lack 1 = .ok (.iconst 0, 1) := by decide +kernel
theorem dL_lack_2 : decode cL_lack 2 = .ok (.aload_n 0, 1) := by decide +kernel
theorem dL_lack_3 : decode cL_lack 3 = .ok (.iload_n 1, 1) := by decide +kernel
theorem dL_lack_4 : decode cL_lack 4 = .ok (.iload_n 2, 1) := by decide +kernel
theorem dL_lack_5 : decode cL_lack 5 = .ok (.invokevirtual 131, 3) := by decide +kernel
theorem dL_lack_8 : decode cL_lack 8 = .ok (.i2l, 1) := by decide +kernel
theorem dL_lack_9 : decode cL_lack 9 = .ok (.lastore, 1) := by decide +kernel
theorem dL_lack_10 : decode cL_lack 10 = .ok (.goto 7, 3) := by decide +kernel
theorem dL_lack_13 : decode cL_lack 13 = .ok (.astore 4, 2) := by decide +kernel
theorem dL_lack_15 : decode cL_lack 15 = .ok (.iconst 1, 1) := by decide +kernel
theorem dL_lack_16 : decode cL_lack 16 = .ok (.ireturn, 1) := by decide +kernel
theorem dL_lack_17 : decode cL_lack 17 = .ok (.iconst 0, 1) := by decide +kernel
theorem dL_lack_18 : decode cL_lack 18 = .ok (.ireturn, 1) := by decide +kernel
theorem dL_lacks_0 : decode cL_lacks 0 = .ok (.aload_n 2, 1) := by decide +kernel
theorem dL_lacks_1 : decode cL_lacks 1 = .ok (.iconst 0, 1) := by decide +kernel
theorem dL_lacks_2 : decode cL_lacks 2 = .ok (.aload_n 0, 1) := by decide +kernel
theorem dL_lacks_3 : decode cL_lacks 3 = .ok (.iload_n 1, 1) := by decide +kernel
theorem dL_lacks_4 : decode cL_lacks 4 = .ok (.invokevirtual 134, 3) := by decide +kernel
theorem dL_lacks_7 : decode cL_lacks 7 = .ok (.i2l, 1) := by decide +kernel
theorem dL_lacks_8 : decode cL_lacks 8 = .ok (.lastore, 1) := by decide +kernel
theorem dL_lacks_9 : decode cL_lacks 9 = .ok (.goto 6, 3) := by decide +kernel
theorem dL_lacks_12 : decode cL_lacks 12 = .ok (.astore_n 3, 1) := by decide +kernel
theorem dL_lacks_13 : decode cL_lacks 13 = .ok (.iconst 1, 1) := by decide +kernel
theorem dL_lacks_14 : decode cL_lacks 14 = .ok (.ireturn, 1) := by decide +kernel
theorem dL_lacks_15 : decode cL_lacks 15 = .ok (.iconst 0, 1) := by decide +kernel
theorem dL_lacks_16 : decode cL_lacks 16 = .ok (.ireturn, 1) := by decide +kernel
theorem dL_ahead_0 : decode cL_ahead 0 = .ok (.aload_n 3, 1) := by decide +kernel
theorem dL_ahead_1 : decode cL_ahead 1 = .ok (.iconst 0, 1) := by decide +kernel
theorem dL_ahead_2 : decode cL_ahead 2 = .ok (.aload_n 0, 1) := by decide +kernel
theorem dL_ahead_3 : decode cL_ahead 3 = .ok (.iload_n 1, 1) := by decide +kernel
theorem dL_ahead_4 : decode cL_ahead 4 = .ok (.iload_n 2, 1) := by decide +kernel
theorem dL_ahead_5 : decode cL_ahead 5 = .ok (.invokevirtual 138, 3) := by decide +kernel
theorem dL_ahead_8 : decode cL_ahead 8 = .ok (.ifCond .eq 7, 3) := by decide +kernel
theorem dL_ahead_11 : decode cL_ahead 11 = .ok (.lconst 1, 1) := by decide +kernel
theorem dL_ahead_12 : decode cL_ahead 12 = .ok (.goto 4, 3) := by decide +kernel
theorem dL_ahead_15 : decode cL_ahead 15 = .ok (.lconst 0, 1) := by decide +kernel
theorem dL_ahead_16 : decode cL_ahead 16 = .ok (.lastore, 1) := by decide +kernel
theorem dL_ahead_17 : decode cL_ahead 17 = .ok (.goto 15, 3) := by decide +kernel
theorem dL_ahead_20 : decode cL_ahead 20 = .ok (.astore 4, 2) := by decide +kernel
theorem dL_ahead_22 : decode cL_ahead 22 = .ok (.iconst 1, 1) := by decide +kernel
theorem dL_ahead_23 : decode cL_ahead 23 = .ok (.ireturn, 1) := by decide +kernel
theorem dL_ahead_24 : decode cL_ahead 24 = .ok (.astore 4, 2) := by decide +kernel
theorem dL_ahead_26 : decode cL_ahead 26 = .ok (.iconst 2, 1) := by decide +kernel
theorem dL_ahead_27 : decode cL_ahead 27 = .ok (.ireturn, 1) := by decide +kernel
theorem dL_ahead_28 : decode cL_ahead 28 = .ok (.astore 4, 2) := by decide +kernel
theorem dL_ahead_30 : decode cL_ahead 30 = .ok (.iconst 3, 1) := by decide +kernel
theorem dL_ahead_31 : decode cL_ahead 31 = .ok (.ireturn, 1) := by decide +kernel
theorem dL_ahead_32 : decode cL_ahead 32 = .ok (.iconst 0, 1) := by decide +kernel
theorem dL_ahead_33 : decode cL_ahead 33 = .ok (.ireturn, 1) := by decide +kernel
theorem dL_isReady_0 : decode cL_isReady 0 = .ok (.aload_n 2, 1) := by decide +kernel
theorem dL_isReady_1 : decode cL_isReady 1 = .ok (.iconst 0, 1) := by decide +kernel
theorem dL_isReady_2 : decode cL_isReady 2 = .ok (.aload_n 0, 1) := by decide +kernel
theorem dL_isReady_3 : decode cL_isReady 3 = .ok (.iload_n 1, 1) := by decide +kernel
theorem dL_isReady_4 : decode cL_isReady 4 = .ok (.invokevirtual 141, 3) := by decide +kernel
theorem dL_isReady_7 : decode cL_isReady 7 = .ok (.ifCond .eq 7, 3) := by decide +kernel
theorem dL_isReady_10 : decode cL_isReady 10 = .ok (.lconst 1, 1) := by decide +kernel
theorem dL_isReady_11 : decode cL_isReady 11 = .ok (.goto 4, 3) := by decide +kernel
theorem dL_isReady_14 : decode cL_isReady 14 = .ok (.lconst 0, 1) := by decide +kernel
theorem dL_isReady_15 : decode cL_isReady 15 = .ok (.lastore, 1) := by decide +kernel
theorem dL_isReady_16 : decode cL_isReady 16 = .ok (.goto 6, 3) := by decide +kernel
theorem dL_isReady_19 : decode cL_isReady 19 = .ok (.astore_n 3, 1) := by decide +kernel
theorem dL_isReady_20 : decode cL_isReady 20 = .ok (.iconst 1, 1) := by decide +kernel
theorem dL_isReady_21 : decode cL_isReady 21 = .ok (.ireturn, 1) := by decide +kernel
theorem dL_isReady_22 : decode cL_isReady 22 = .ok (.iconst 0, 1) := by decide +kernel
theorem dL_isReady_23 : decode cL_isReady 23 = .ok (.ireturn, 1) := by decide +kernel
theorem dL_turnover_0 : decode cL_turnover 0 = .ok (.aload_n 2, 1) := by decide +kernel
theorem dL_turnover_1 : decode cL_turnover 1 = .ok (.iconst 0, 1) := by decide +kernel
theorem dL_turnover_2 : decode cL_turnover 2 = .ok (.aload_n 0, 1) := by decide +kernel
theorem dL_turnover_3 : decode cL_turnover 3 = .ok (.iload_n 1, 1) := by decide +kernel
theorem dL_turnover_4 : decode cL_turnover 4 = .ok (.invokevirtual 144, 3) := by decide +kernel
theorem dL_turnover_7 : decode cL_turnover 7 = .ok (.i2l, 1) := by decide +kernel
theorem dL_turnover_8 : decode cL_turnover 8 = .ok (.lastore, 1) := by decide +kernel
theorem dL_turnover_9 : decode cL_turnover 9 = .ok (.goto 6, 3) := by decide +kernel
theorem dL_turnover_12 : decode cL_turnover 12 = .ok (.astore_n 3, 1) := by decide +kernel
theorem dL_turnover_13 : decode cL_turnover 13 = .ok (.iconst 1, 1) := by decide +kernel
theorem dL_turnover_14 : decode cL_turnover 14 = .ok (.ireturn, 1) := by decide +kernel
theorem dL_turnover_15 : decode cL_turnover 15 = .ok (.iconst 0, 1) := by decide +kernel
theorem dL_turnover_16 : decode cL_turnover 16 = .ok (.ireturn, 1) := by decide +kernel
theorem dL_doneShare_0 : decode cL_doneShare 0 = .ok (.aload_n 1, 1) := by decide +kernel
theorem dL_doneShare_1 : decode cL_doneShare 1 = .ok (.iconst 0, 1) := by decide +kernel
theorem dL_doneShare_2 : decode cL_doneShare 2 = .ok (.aload_n 0, 1) := by decide +kernel
theorem dL_doneShare_3 : decode cL_doneShare 3 = .ok (.invokevirtual 147, 3) := by decide +kernel
theorem dL_doneShare_6 : decode cL_doneShare 6 = .ok (.f2d, 1) := by decide +kernel
theorem dL_doneShare_7 : decode cL_doneShare 7 = .ok (.dastore, 1) := by decide +kernel
theorem dL_doneShare_8 : decode cL_doneShare 8 = .ok (.goto 6, 3) := by decide +kernel
theorem dL_doneShare_11 : decode cL_doneShare 11 = .ok (.astore_n 2, 1) := by decide +kernel
theorem dL_doneShare_12 : decode cL_doneShare 12 = .ok (.iconst 1, 1) := by decide +kernel
theorem dL_doneShare_13 : decode cL_doneShare 13 = .ok (.ireturn, 1) := by decide +kernel
theorem dL_doneShare_14 : decode cL_doneShare 14 = .ok (.iconst 0, 1) := by decide +kernel
theorem dL_doneShare_15 : decode cL_doneShare 15 = .ok (.ireturn, 1) := by decide +kernel
theorem dL_meanSpool_0 : decode cL_meanSpool 0 = .ok (.aload_n 2, 1) := by decide +kernel
theorem dL_meanSpool_1 : decode cL_meanSpool 1 = .ok (.iconst 0, 1) := by decide +kernel
theorem dL_meanSpool_2 : decode cL_meanSpool 2 = .ok (.aload_n 0, 1) := by decide +kernel
theorem dL_meanSpool_3 : decode cL_meanSpool 3 = .ok (.iload_n 1, 1) := by decide +kernel
theorem dL_meanSpool_4 : decode cL_meanSpool 4 = .ok (.invokevirtual 153, 3) := by decide +kernel
theorem dL_meanSpool_7 : decode cL_meanSpool 7 = .ok (.dastore, 1) := by decide +kernel
theorem dL_meanSpool_8 : decode cL_meanSpool 8 = .ok (.goto 9, 3) := by decide +kernel
theorem dL_meanSpool_11 : decode cL_meanSpool 11 = .ok (.astore_n 3, 1) := by decide +kernel
theorem dL_meanSpool_12 : decode cL_meanSpool 12 = .ok (.iconst 1, 1) := by decide +kernel
theorem dL_meanSpool_13 : decode cL_meanSpool 13 = .ok (.ireturn, 1) := by decide +kernel
theorem dL_meanSpool_14 : decode cL_meanSpool 14 = .ok (.astore_n 3, 1) := by decide +kernel
theorem dL_meanSpool_15 : decode cL_meanSpool 15 = .ok (.iconst 2, 1) := by decide +kernel
theorem dL_meanSpool_16 : decode cL_meanSpool 16 = .ok (.ireturn, 1) := by decide +kernel
theorem dL_meanSpool_17 : decode cL_meanSpool 17 = .ok (.iconst 0, 1) := by decide +kernel
theorem dL_meanSpool_18 : decode cL_meanSpool 18 = .ok (.ireturn, 1) := by decide +kernel
theorem dL_law_0 : decode cL_law 0 = .ok (.new 8, 3) := by decide +kernel
theorem dL_law_3 : decode cL_law 3 = .ok (.dup, 1) := by decide +kernel
theorem dL_law_4 : decode cL_law 4 = .ok (.invokespecial 157, 3) := by decide +kernel
theorem dL_law_7 : decode cL_law 7 = .ok (.astore_n 1, 1) := by decide +kernel
theorem dL_law_8 : decode cL_law 8 = .ok (.new 158, 3) := by decide +kernel
theorem dL_law_11 : decode cL_law 11 = .ok (.dup, 1) := by decide +kernel
theorem dL_law_12 : decode cL_law 12 = .ok (.invokespecial 160, 3) := by decide +kernel
theorem dL_law_15 : decode cL_law 15 = .ok (.astore_n 2, 1) := by decide +kernel
theorem dL_law_16 : decode cL_law 16 = .ok (.iconst 1, 1) := by decide +kernel
theorem dL_law_17 : decode cL_law 17 = .ok (.newarray .long, 2) := by decide +kernel
theorem dL_law_19 : decode cL_law 19 = .ok (.astore_n 3, 1) := by decide +kernel
theorem dL_law_20 : decode cL_law 20 = .ok (.iconst 1, 1) := by decide +kernel
theorem dL_law_21 : decode cL_law 21 = .ok (.newarray .double, 2) := by decide +kernel
theorem dL_law_23 : decode cL_law 23 = .ok (.astore 4, 2) := by decide +kernel
theorem dL_law_25 : decode cL_law 25 = .ok (.iconst 0, 1) := by decide +kernel
theorem dL_law_26 : decode cL_law 26 = .ok (.istore 5, 2) := by decide +kernel
theorem dL_law_28 : decode cL_law 28 = .ok (.iload 5, 2) := by decide +kernel
theorem dL_law_30 : decode cL_law 30 = .ok (.aload_n 0, 1) := by decide +kernel
theorem dL_law_31 : decode cL_law 31 = .ok (.arraylength, 1) := by decide +kernel
theorem dL_law_32 : decode cL_law 32 = .ok (.iconst 5, 1) := by decide +kernel
theorem dL_law_33 : decode cL_law 33 = .ok (.isub, 1) := by decide +kernel
theorem dL_law_34 : decode cL_law 34 = .ok (.if_icmp .gt 3069, 3) := by decide +kernel
theorem dL_law_37 : decode cL_law 37 = .ok (.aload_n 0, 1) := by decide +kernel
theorem dL_law_38 : decode cL_law 38 = .ok (.iload 5, 2) := by decide +kernel
theorem dL_law_40 : decode cL_law 40 = .ok (.iaload, 1) := by decide +kernel
theorem dL_law_41 : decode cL_law 41 = .ok (.bipush 63, 2) := by decide +kernel
theorem dL_law_43 : decode cL_law 43 = .ok (.iand, 1) := by decide +kernel
theorem dL_law_44 : decode cL_law 44 = .ok (.tableswitch 3053 0 42 #[188, 244, 326, 406, 462, 518, 586, 661, 757, 813, 876, 939, 1019, 1087, 1167, 1211, 1291, 1378, 1458, 1554, 1634, 1702, 1770, 1838, 1894, 1950, 2006, 2137, 2256, 2312, 2368, 2431, 2487, 2550, 2618, 2676, 2689, 2764, 2827, 2883, 2897, 2963, 3040], 188) := by decide +kernel
theorem dL_law_232 : decode cL_law 232 = .ok (.aload_n 1, 1) := by decide +kernel
theorem dL_law_233 : decode cL_law 233 = .ok (.aload_n 0, 1) := by decide +kernel
theorem dL_law_234 : decode cL_law 234 = .ok (.iload 5, 2) := by decide +kernel
theorem dL_law_236 : decode cL_law 236 = .ok (.iconst 1, 1) := by decide +kernel
theorem dL_law_237 : decode cL_law 237 = .ok (.iadd, 1) := by decide +kernel
theorem dL_law_238 : decode cL_law 238 = .ok (.iaload, 1) := by decide +kernel
theorem dL_law_239 : decode cL_law 239 = .ok (.aload_n 3, 1) := by decide +kernel
theorem dL_law_240 : decode cL_law 240 = .ok (.invokestatic 161, 3) := by decide +kernel
theorem dL_law_243 : decode cL_law 243 = .ok (.istore 6, 2) := by decide +kernel
theorem dL_law_245 : decode cL_law 245 = .ok (.aload_n 2, 1) := by decide +kernel
theorem dL_law_246 : decode cL_law 246 = .ok (.aload_n 0, 1) := by decide +kernel
theorem dL_law_247 : decode cL_law 247 = .ok (.iload 5, 2) := by decide +kernel
theorem dL_law_249 : decode cL_law 249 = .ok (.iconst 1, 1) := by decide +kernel
theorem dL_law_250 : decode cL_law 250 = .ok (.iadd, 1) := by decide +kernel
theorem dL_law_251 : decode cL_law 251 = .ok (.iaload, 1) := by decide +kernel
theorem dL_law_252 : decode cL_law 252 = .ok (.invokevirtual 166, 3) := by decide +kernel
theorem dL_law_255 : decode cL_law 255 = .ok (.istore 7, 2) := by decide +kernel
theorem dL_law_257 : decode cL_law 257 = .ok (.aload_n 2, 1) := by decide +kernel
theorem dL_law_258 : decode cL_law 258 = .ok (.invokevirtual 167, 3) := by decide +kernel
theorem dL_law_261 : decode cL_law 261 = .ok (.iload 6, 2) := by decide +kernel
theorem dL_law_263 : decode cL_law 263 = .ok (.if_icmp .eq 5, 3) := by decide +kernel
theorem dL_law_266 : decode cL_law 266 = .ok (.iconst 0, 1) := by decide +kernel
theorem dL_law_267 : decode cL_law 267 = .ok (.ireturn, 1) := by decide +kernel
theorem dL_law_268 : decode cL_law 268 = .ok (.iload 6, 2) := by decide +kernel
theorem dL_law_270 : decode cL_law 270 = .ok (.ifCond .ne 15, 3) := by decide +kernel
theorem dL_law_273 : decode cL_law 273 = .ok (.aload_n 3, 1) := by decide +kernel
theorem dL_law_274 : decode cL_law 274 = .ok (.iconst 0, 1) := by decide +kernel
theorem dL_law_275 : decode cL_law 275 = .ok (.laload, 1) := by decide +kernel
theorem dL_law_276 : decode cL_law 276 = .ok (.iload 7, 2) := by decide +kernel
theorem dL_law_278 : decode cL_law 278 = .ok (.i2l, 1) := by decide +kernel
theorem dL_law_279 : decode cL_law 279 = .ok (.lcmp, 1) := by decide +kernel
theorem dL_law_280 : decode cL_law 280 = .ok (.ifCond .eq 5, 3) := by decide +kernel
theorem dL_law_283 : decode cL_law 283 = .ok (.iconst 0, 1) := by decide +kernel
theorem dL_law_284 : decode cL_law 284 = .ok (.ireturn, 1) := by decide +kernel
theorem dL_law_285 : decode cL_law 285 = .ok (.goto 2812, 3) := by decide +kernel
theorem dL_law_288 : decode cL_law 288 = .ok (.aload_n 1, 1) := by decide +kernel
theorem dL_law_289 : decode cL_law 289 = .ok (.aload_n 0, 1) := by decide +kernel
theorem dL_law_290 : decode cL_law 290 = .ok (.iload 5, 2) := by decide +kernel
theorem dL_law_292 : decode cL_law 292 = .ok (.iconst 1, 1) := by decide +kernel
theorem dL_law_293 : decode cL_law 293 = .ok (.iadd, 1) := by decide +kernel
theorem dL_law_294 : decode cL_law 294 = .ok (.iaload, 1) := by decide +kernel
theorem dL_law_295 : decode cL_law 295 = .ok (.aload_n 0, 1) := by decide +kernel
theorem dL_law_296 : decode cL_law 296 = .ok (.iload 5, 2) := by decide +kernel
theorem dL_law_298 : decode cL_law 298 = .ok (.iconst 2, 1) := by decide +kernel
theorem dL_law_299 : decode cL_law 299 = .ok (.iadd, 1) := by decide +kernel
theorem dL_law_300 : decode cL_law 300 = .ok (.iaload, 1) := by decide +kernel
theorem dL_law_301 : decode cL_law 301 = .ok (.i2c, 1) := by decide +kernel
theorem dL_law_302 : decode cL_law 302 = .ok (.aload_n 0, 1) := by decide +kernel
theorem dL_law_303 : decode cL_law 303 = .ok (.iload 5, 2) := by decide +kernel
theorem dL_law_305 : decode cL_law 305 = .ok (.iconst 3, 1) := by decide +kernel
theorem dL_law_306 : decode cL_law 306 = .ok (.iadd, 1) := by decide +kernel
theorem dL_law_307 : decode cL_law 307 = .ok (.iaload, 1) := by decide +kernel
theorem dL_law_308 : decode cL_law 308 = .ok (.aload_n 3, 1) := by decide +kernel
theorem dL_law_309 : decode cL_law 309 = .ok (.invokestatic 170, 3) := by decide +kernel
theorem dL_law_312 : decode cL_law 312 = .ok (.istore 6, 2) := by decide +kernel
theorem dL_law_314 : decode cL_law 314 = .ok (.aload_n 2, 1) := by decide +kernel
theorem dL_law_315 : decode cL_law 315 = .ok (.aload_n 0, 1) := by decide +kernel
theorem dL_law_316 : decode cL_law 316 = .ok (.iload 5, 2) := by decide +kernel
theorem dL_law_318 : decode cL_law 318 = .ok (.iconst 1, 1) := by decide +kernel
theorem dL_law_319 : decode cL_law 319 = .ok (.iadd, 1) := by decide +kernel
theorem dL_law_320 : decode cL_law 320 = .ok (.iaload, 1) := by decide +kernel
theorem dL_law_321 : decode cL_law 321 = .ok (.aload_n 0, 1) := by decide +kernel
theorem dL_law_322 : decode cL_law 322 = .ok (.iload 5, 2) := by decide +kernel
theorem dL_law_324 : decode cL_law 324 = .ok (.iconst 2, 1) := by decide +kernel
theorem dL_law_325 : decode cL_law 325 = .ok (.iadd, 1) := by decide +kernel
theorem dL_law_326 : decode cL_law 326 = .ok (.iaload, 1) := by decide +kernel
theorem dL_law_327 : decode cL_law 327 = .ok (.i2c, 1) := by decide +kernel
theorem dL_law_328 : decode cL_law 328 = .ok (.aload_n 0, 1) := by decide +kernel
theorem dL_law_329 : decode cL_law 329 = .ok (.iload 5, 2) := by decide +kernel
theorem dL_law_331 : decode cL_law 331 = .ok (.iconst 3, 1) := by decide +kernel
theorem dL_law_332 : decode cL_law 332 = .ok (.iadd, 1) := by decide +kernel
theorem dL_law_333 : decode cL_law 333 = .ok (.iaload, 1) := by decide +kernel
theorem dL_law_334 : decode cL_law 334 = .ok (.invokevirtual 173, 3) := by decide +kernel
theorem dL_law_337 : decode cL_law 337 = .ok (.istore 7, 2) := by decide +kernel
theorem dL_law_339 : decode cL_law 339 = .ok (.aload_n 2, 1) := by decide +kernel
theorem dL_law_340 : decode cL_law 340 = .ok (.invokevirtual 167, 3) := by decide +kernel
theorem dL_law_343 : decode cL_law 343 = .ok (.iload 6, 2) := by decide +kernel
theorem dL_law_345 : decode cL_law 345 = .ok (.if_icmp .eq 5, 3) := by decide +kernel
theorem dL_law_348 : decode cL_law 348 = .ok (.iconst 0, 1) := by decide +kernel
theorem dL_law_349 : decode cL_law 349 = .ok (.ireturn, 1) := by decide +kernel
theorem dL_law_350 : decode cL_law 350 = .ok (.iload 6, 2) := by decide +kernel
theorem dL_law_352 : decode cL_law 352 = .ok (.ifCond .ne 15, 3) := by decide +kernel
theorem dL_law_355 : decode cL_law 355 = .ok (.aload_n 3, 1) := by decide +kernel
theorem dL_law_356 : decode cL_law 356 = .ok (.iconst 0, 1) := by decide +kernel
theorem dL_law_357 : decode cL_law 357 = .ok (.laload, 1) := by decide +kernel
theorem dL_law_358 : decode cL_law 358 = .ok (.iload 7, 2) := by decide +kernel
theorem dL_law_360 : decode cL_law 360 = .ok (.i2l, 1) := by decide +kernel
theorem dL_law_361 : decode cL_law 361 = .ok (.lcmp, 1) := by decide +kernel
theorem dL_law_362 : decode cL_law 362 = .ok (.ifCond .eq 5, 3) := by decide +kernel
theorem dL_law_365 : decode cL_law 365 = .ok (.iconst 0, 1) := by decide +kernel
theorem dL_law_366 : decode cL_law 366 = .ok (.ireturn, 1) := by decide +kernel
theorem dL_law_367 : decode cL_law 367 = .ok (.goto 2730, 3) := by decide +kernel
theorem dL_law_370 : decode cL_law 370 = .ok (.aload_n 1, 1) := by decide +kernel
theorem dL_law_371 : decode cL_law 371 = .ok (.aload_n 0, 1) := by decide +kernel
theorem dL_law_372 : decode cL_law 372 = .ok (.iload 5, 2) := by decide +kernel
theorem dL_law_374 : decode cL_law 374 = .ok (.iconst 1, 1) := by decide +kernel
theorem dL_law_375 : decode cL_law 375 = .ok (.iadd, 1) := by decide +kernel
theorem dL_law_376 : decode cL_law 376 = .ok (.iaload, 1) := by decide +kernel
theorem dL_law_377 : decode cL_law 377 = .ok (.aload_n 0, 1) := by decide +kernel
theorem dL_law_378 : decode cL_law 378 = .ok (.iload 5, 2) := by decide +kernel
theorem dL_law_380 : decode cL_law 380 = .ok (.iconst 2, 1) := by decide +kernel
theorem dL_law_381 : decode cL_law 381 = .ok (.iadd, 1) := by decide +kernel
theorem dL_law_382 : decode cL_law 382 = .ok (.iaload, 1) := by decide +kernel
theorem dL_law_383 : decode cL_law 383 = .ok (.aload_n 0, 1) := by decide +kernel
theorem dL_law_384 : decode cL_law 384 = .ok (.iload 5, 2) := by decide +kernel
theorem dL_law_386 : decode cL_law 386 = .ok (.iconst 3, 1) := by decide +kernel
theorem dL_law_387 : decode cL_law 387 = .ok (.iadd, 1) := by decide +kernel
theorem dL_law_388 : decode cL_law 388 = .ok (.iaload, 1) := by decide +kernel
theorem dL_law_389 : decode cL_law 389 = .ok (.aload_n 3, 1) := by decide +kernel
theorem dL_law_390 : decode cL_law 390 = .ok (.invokestatic 174, 3) := by decide +kernel
theorem dL_law_393 : decode cL_law 393 = .ok (.istore 6, 2) := by decide +kernel
theorem dL_law_395 : decode cL_law 395 = .ok (.aload_n 2, 1) := by decide +kernel
theorem dL_law_396 : decode cL_law 396 = .ok (.aload_n 0, 1) := by decide +kernel
theorem dL_law_397 : decode cL_law 397 = .ok (.iload 5, 2) := by decide +kernel
theorem dL_law_399 : decode cL_law 399 = .ok (.iconst 1, 1) := by decide +kernel
theorem dL_law_400 : decode cL_law 400 = .ok (.iadd, 1) := by decide +kernel
theorem dL_law_401 : decode cL_law 401 = .ok (.iaload, 1) := by decide +kernel
theorem dL_law_402 : decode cL_law 402 = .ok (.aload_n 0, 1) := by decide +kernel
theorem dL_law_403 : decode cL_law 403 = .ok (.iload 5, 2) := by decide +kernel
theorem dL_law_405 : decode cL_law 405 = .ok (.iconst 2, 1) := by decide +kernel
theorem dL_law_406 : decode cL_law 406 = .ok (.iadd, 1) := by decide +kernel
theorem dL_law_407 : decode cL_law 407 = .ok (.iaload, 1) := by decide +kernel
theorem dL_law_408 : decode cL_law 408 = .ok (.aload_n 0, 1) := by decide +kernel
theorem dL_law_409 : decode cL_law 409 = .ok (.iload 5, 2) := by decide +kernel
theorem dL_law_411 : decode cL_law 411 = .ok (.iconst 3, 1) := by decide +kernel
theorem dL_law_412 : decode cL_law 412 = .ok (.iadd, 1) := by decide +kernel
theorem dL_law_413 : decode cL_law 413 = .ok (.iaload, 1) := by decide +kernel
theorem dL_law_414 : decode cL_law 414 = .ok (.invokevirtual 177, 3) := by decide +kernel
theorem dL_law_417 : decode cL_law 417 = .ok (.istore 7, 2) := by decide +kernel
theorem dL_law_419 : decode cL_law 419 = .ok (.aload_n 2, 1) := by decide +kernel
theorem dL_law_420 : decode cL_law 420 = .ok (.invokevirtual 167, 3) := by decide +kernel
theorem dL_law_423 : decode cL_law 423 = .ok (.iload 6, 2) := by decide +kernel
theorem dL_law_425 : decode cL_law 425 = .ok (.if_icmp .eq 5, 3) := by decide +kernel
theorem dL_law_428 : decode cL_law 428 = .ok (.iconst 0, 1) := by decide +kernel
theorem dL_law_429 : decode cL_law 429 = .ok (.ireturn, 1) := by decide +kernel
theorem dL_law_430 : decode cL_law 430 = .ok (.iload 6, 2) := by decide +kernel
theorem dL_law_432 : decode cL_law 432 = .ok (.ifCond .ne 15, 3) := by decide +kernel
theorem dL_law_435 : decode cL_law 435 = .ok (.aload_n 3, 1) := by decide +kernel
theorem dL_law_436 : decode cL_law 436 = .ok (.iconst 0, 1) := by decide +kernel
theorem dL_law_437 : decode cL_law 437 = .ok (.laload, 1) := by decide +kernel
theorem dL_law_438 : decode cL_law 438 = .ok (.iload 7, 2) := by decide +kernel
theorem dL_law_440 : decode cL_law 440 = .ok (.i2l, 1) := by decide +kernel
theorem dL_law_441 : decode cL_law 441 = .ok (.lcmp, 1) := by decide +kernel
theorem dL_law_442 : decode cL_law 442 = .ok (.ifCond .eq 5, 3) := by decide +kernel
theorem dL_law_445 : decode cL_law 445 = .ok (.iconst 0, 1) := by decide +kernel
theorem dL_law_446 : decode cL_law 446 = .ok (.ireturn, 1) := by decide +kernel
theorem dL_law_447 : decode cL_law 447 = .ok (.goto 2650, 3) := by decide +kernel
theorem dL_law_450 : decode cL_law 450 = .ok (.aload_n 1, 1) := by decide +kernel
theorem dL_law_451 : decode cL_law 451 = .ok (.aload_n 0, 1) := by decide +kernel
theorem dL_law_452 : decode cL_law 452 = .ok (.iload 5, 2) := by decide +kernel
theorem dL_law_454 : decode cL_law 454 = .ok (.iconst 1, 1) := by decide +kernel
theorem dL_law_455 : decode cL_law 455 = .ok (.iadd, 1) := by decide +kernel
theorem dL_law_456 : decode cL_law 456 = .ok (.iaload, 1) := by decide +kernel
theorem dL_law_457 : decode cL_law 457 = .ok (.aload_n 3, 1) := by decide +kernel
theorem dL_law_458 : decode cL_law 458 = .ok (.invokestatic 178, 3) := by decide +kernel
theorem dL_law_461 : decode cL_law 461 = .ok (.istore 6, 2) := by decide +kernel
theorem dL_law_463 : decode cL_law 463 = .ok (.aload_n 2, 1) := by decide +kernel
theorem dL_law_464 : decode cL_law 464 = .ok (.aload_n 0, 1) := by decide +kernel
theorem dL_law_465 : decode cL_law 465 = .ok (.iload 5, 2) := by decide +kernel
theorem dL_law_467 : decode cL_law 467 = .ok (.iconst 1, 1) := by decide +kernel
theorem dL_law_468 : decode cL_law 468 = .ok (.iadd, 1) := by decide +kernel
theorem dL_law_469 : decode cL_law 469 = .ok (.iaload, 1) := by decide +kernel
theorem dL_law_470 : decode cL_law 470 = .ok (.invokevirtual 180, 3) := by decide +kernel
theorem dL_law_473 : decode cL_law 473 = .ok (.istore 7, 2) := by decide +kernel
theorem dL_law_475 : decode cL_law 475 = .ok (.aload_n 2, 1) := by decide +kernel
theorem dL_law_476 : decode cL_law 476 = .ok (.invokevirtual 167, 3) := by decide +kernel
theorem dL_law_479 : decode cL_law 479 = .ok (.iload 6, 2) := by decide +kernel
theorem dL_law_481 : decode cL_law 481 = .ok (.if_icmp .eq 5, 3) := by decide +kernel
theorem dL_law_484 : decode cL_law 484 = .ok (.iconst 0, 1) := by decide +kernel
theorem dL_law_485 : decode cL_law 485 = .ok (.ireturn, 1) := by decide +kernel
theorem dL_law_486 : decode cL_law 486 = .ok (.iload 6, 2) := by decide +kernel
theorem dL_law_488 : decode cL_law 488 = .ok (.ifCond .ne 15, 3) := by decide +kernel
theorem dL_law_491 : decode cL_law 491 = .ok (.aload_n 3, 1) := by decide +kernel
theorem dL_law_492 : decode cL_law 492 = .ok (.iconst 0, 1) := by decide +kernel
theorem dL_law_493 : decode cL_law 493 = .ok (.laload, 1) := by decide +kernel
theorem dL_law_494 : decode cL_law 494 = .ok (.iload 7, 2) := by decide +kernel
theorem dL_law_496 : decode cL_law 496 = .ok (.i2l, 1) := by decide +kernel
theorem dL_law_497 : decode cL_law 497 = .ok (.lcmp, 1) := by decide +kernel
theorem dL_law_498 : decode cL_law 498 = .ok (.ifCond .eq 5, 3) := by decide +kernel
theorem dL_law_501 : decode cL_law 501 = .ok (.iconst 0, 1) := by decide +kernel
theorem dL_law_502 : decode cL_law 502 = .ok (.ireturn, 1) := by decide +kernel
theorem dL_law_503 : decode cL_law 503 = .ok (.goto 2594, 3) := by decide +kernel
theorem dL_law_506 : decode cL_law 506 = .ok (.aload_n 1, 1) := by decide +kernel
theorem dL_law_507 : decode cL_law 507 = .ok (.aload_n 0, 1) := by decide +kernel
theorem dL_law_508 : decode cL_law 508 = .ok (.iload 5, 2) := by decide +kernel
theorem dL_law_510 : decode cL_law 510 = .ok (.iconst 1, 1) := by decide +kernel
theorem dL_law_511 : decode cL_law 511 = .ok (.iadd, 1) := by decide +kernel
theorem dL_law_512 : decode cL_law 512 = .ok (.iaload, 1) := by decide +kernel
theorem dL_law_513 : decode cL_law 513 = .ok (.aload_n 3, 1) := by decide +kernel
theorem dL_law_514 : decode cL_law 514 = .ok (.invokestatic 181, 3) := by decide +kernel
theorem dL_law_517 : decode cL_law 517 = .ok (.istore 6, 2) := by decide +kernel
theorem dL_law_519 : decode cL_law 519 = .ok (.aload_n 2, 1) := by decide +kernel
theorem dL_law_520 : decode cL_law 520 = .ok (.aload_n 0, 1) := by decide +kernel
theorem dL_law_521 : decode cL_law 521 = .ok (.iload 5, 2) := by decide +kernel
theorem dL_law_523 : decode cL_law 523 = .ok (.iconst 1, 1) := by decide +kernel
theorem dL_law_524 : decode cL_law 524 = .ok (.iadd, 1) := by decide +kernel
theorem dL_law_525 : decode cL_law 525 = .ok (.iaload, 1) := by decide +kernel
theorem dL_law_526 : decode cL_law 526 = .ok (.invokevirtual 183, 3) := by decide +kernel
theorem dL_law_529 : decode cL_law 529 = .ok (.istore 7, 2) := by decide +kernel
theorem dL_law_531 : decode cL_law 531 = .ok (.aload_n 2, 1) := by decide +kernel
theorem dL_law_532 : decode cL_law 532 = .ok (.invokevirtual 167, 3) := by decide +kernel
theorem dL_law_535 : decode cL_law 535 = .ok (.iload 6, 2) := by decide +kernel
theorem dL_law_537 : decode cL_law 537 = .ok (.if_icmp .eq 5, 3) := by decide +kernel
theorem dL_law_540 : decode cL_law 540 = .ok (.iconst 0, 1) := by decide +kernel
theorem dL_law_541 : decode cL_law 541 = .ok (.ireturn, 1) := by decide +kernel
theorem dL_law_542 : decode cL_law 542 = .ok (.iload 6, 2) := by decide +kernel
theorem dL_law_544 : decode cL_law 544 = .ok (.ifCond .ne 15, 3) := by decide +kernel
theorem dL_law_547 : decode cL_law 547 = .ok (.aload_n 3, 1) := by decide +kernel
theorem dL_law_548 : decode cL_law 548 = .ok (.iconst 0, 1) := by decide +kernel
theorem dL_law_549 : decode cL_law 549 = .ok (.laload, 1) := by decide +kernel
theorem dL_law_550 : decode cL_law 550 = .ok (.iload 7, 2) := by decide +kernel
theorem dL_law_552 : decode cL_law 552 = .ok (.i2l, 1) := by decide +kernel
theorem dL_law_553 : decode cL_law 553 = .ok (.lcmp, 1) := by decide +kernel
theorem dL_law_554 : decode cL_law 554 = .ok (.ifCond .eq 5, 3) := by decide +kernel
theorem dL_law_557 : decode cL_law 557 = .ok (.iconst 0, 1) := by decide +kernel
theorem dL_law_558 : decode cL_law 558 = .ok (.ireturn, 1) := by decide +kernel
theorem dL_law_559 : decode cL_law 559 = .ok (.goto 2538, 3) := by decide +kernel
theorem dL_law_562 : decode cL_law 562 = .ok (.aload_n 1, 1) := by decide +kernel
theorem dL_law_563 : decode cL_law 563 = .ok (.aload_n 0, 1) := by decide +kernel
theorem dL_law_564 : decode cL_law 564 = .ok (.iload 5, 2) := by decide +kernel
theorem dL_law_566 : decode cL_law 566 = .ok (.iconst 1, 1) := by decide +kernel
theorem dL_law_567 : decode cL_law 567 = .ok (.iadd, 1) := by decide +kernel
theorem dL_law_568 : decode cL_law 568 = .ok (.iaload, 1) := by decide +kernel
theorem dL_law_569 : decode cL_law 569 = .ok (.aload_n 0, 1) := by decide +kernel
theorem dL_law_570 : decode cL_law 570 = .ok (.iload 5, 2) := by decide +kernel
theorem dL_law_572 : decode cL_law 572 = .ok (.iconst 2, 1) := by decide +kernel
theorem dL_law_573 : decode cL_law 573 = .ok (.iadd, 1) := by decide +kernel
theorem dL_law_574 : decode cL_law 574 = .ok (.iaload, 1) := by decide +kernel
theorem dL_law_575 : decode cL_law 575 = .ok (.aload_n 3, 1) := by decide +kernel
theorem dL_law_576 : decode cL_law 576 = .ok (.invokestatic 184, 3) := by decide +kernel
theorem dL_law_579 : decode cL_law 579 = .ok (.istore 6, 2) := by decide +kernel
theorem dL_law_581 : decode cL_law 581 = .ok (.aload_n 2, 1) := by decide +kernel
theorem dL_law_582 : decode cL_law 582 = .ok (.aload_n 0, 1) := by decide +kernel
theorem dL_law_583 : decode cL_law 583 = .ok (.iload 5, 2) := by decide +kernel
theorem dL_law_585 : decode cL_law 585 = .ok (.iconst 1, 1) := by decide +kernel
theorem dL_law_586 : decode cL_law 586 = .ok (.iadd, 1) := by decide +kernel
theorem dL_law_587 : decode cL_law 587 = .ok (.iaload, 1) := by decide +kernel
theorem dL_law_588 : decode cL_law 588 = .ok (.aload_n 0, 1) := by decide +kernel
theorem dL_law_589 : decode cL_law 589 = .ok (.iload 5, 2) := by decide +kernel
theorem dL_law_591 : decode cL_law 591 = .ok (.iconst 2, 1) := by decide +kernel
theorem dL_law_592 : decode cL_law 592 = .ok (.iadd, 1) := by decide +kernel
theorem dL_law_593 : decode cL_law 593 = .ok (.iaload, 1) := by decide +kernel
theorem dL_law_594 : decode cL_law 594 = .ok (.invokevirtual 187, 3) := by decide +kernel
theorem dL_law_597 : decode cL_law 597 = .ok (.istore 7, 2) := by decide +kernel
theorem dL_law_599 : decode cL_law 599 = .ok (.aload_n 2, 1) := by decide +kernel
theorem dL_law_600 : decode cL_law 600 = .ok (.invokevirtual 167, 3) := by decide +kernel
theorem dL_law_603 : decode cL_law 603 = .ok (.iload 6, 2) := by decide +kernel
theorem dL_law_605 : decode cL_law 605 = .ok (.if_icmp .eq 5, 3) := by decide +kernel
theorem dL_law_608 : decode cL_law 608 = .ok (.iconst 0, 1) := by decide +kernel
theorem dL_law_609 : decode cL_law 609 = .ok (.ireturn, 1) := by decide +kernel
theorem dL_law_610 : decode cL_law 610 = .ok (.iload 6, 2) := by decide +kernel
theorem dL_law_612 : decode cL_law 612 = .ok (.ifCond .ne 15, 3) := by decide +kernel
theorem dL_law_615 : decode cL_law 615 = .ok (.aload_n 3, 1) := by decide +kernel
theorem dL_law_616 : decode cL_law 616 = .ok (.iconst 0, 1) := by decide +kernel
theorem dL_law_617 : decode cL_law 617 = .ok (.laload, 1) := by decide +kernel
theorem dL_law_618 : decode cL_law 618 = .ok (.iload 7, 2) := by decide +kernel
theorem dL_law_620 : decode cL_law 620 = .ok (.i2l, 1) := by decide +kernel
theorem dL_law_621 : decode cL_law 621 = .ok (.lcmp, 1) := by decide +kernel
theorem dL_law_622 : decode cL_law 622 = .ok (.ifCond .eq 5, 3) := by decide +kernel
theorem dL_law_625 : decode cL_law 625 = .ok (.iconst 0, 1) := by decide +kernel
theorem dL_law_626 : decode cL_law 626 = .ok (.ireturn, 1) := by decide +kernel
theorem dL_law_627 : decode cL_law 627 = .ok (.goto 2470, 3) := by decide +kernel
theorem dL_law_630 : decode cL_law 630 = .ok (.aload_n 1, 1) := by decide +kernel
theorem dL_law_631 : decode cL_law 631 = .ok (.aload_n 0, 1) := by decide +kernel
theorem dL_law_632 : decode cL_law 632 = .ok (.iload 5, 2) := by decide +kernel
theorem dL_law_634 : decode cL_law 634 = .ok (.iconst 1, 1) := by decide +kernel
theorem dL_law_635 : decode cL_law 635 = .ok (.iadd, 1) := by decide +kernel
theorem dL_law_636 : decode cL_law 636 = .ok (.iaload, 1) := by decide +kernel
theorem dL_law_637 : decode cL_law 637 = .ok (.aload_n 0, 1) := by decide +kernel
theorem dL_law_638 : decode cL_law 638 = .ok (.iload 5, 2) := by decide +kernel
theorem dL_law_640 : decode cL_law 640 = .ok (.iconst 2, 1) := by decide +kernel
theorem dL_law_641 : decode cL_law 641 = .ok (.iadd, 1) := by decide +kernel
theorem dL_law_642 : decode cL_law 642 = .ok (.iaload, 1) := by decide +kernel
theorem dL_law_643 : decode cL_law 643 = .ok (.aload_n 3, 1) := by decide +kernel
theorem dL_law_644 : decode cL_law 644 = .ok (.invokestatic 188, 3) := by decide +kernel
theorem dL_law_647 : decode cL_law 647 = .ok (.istore 6, 2) := by decide +kernel
theorem dL_law_649 : decode cL_law 649 = .ok (.aload_n 2, 1) := by decide +kernel
theorem dL_law_650 : decode cL_law 650 = .ok (.aload_n 0, 1) := by decide +kernel
theorem dL_law_651 : decode cL_law 651 = .ok (.iload 5, 2) := by decide +kernel
theorem dL_law_653 : decode cL_law 653 = .ok (.iconst 1, 1) := by decide +kernel
theorem dL_law_654 : decode cL_law 654 = .ok (.iadd, 1) := by decide +kernel
theorem dL_law_655 : decode cL_law 655 = .ok (.iaload, 1) := by decide +kernel
theorem dL_law_656 : decode cL_law 656 = .ok (.aload_n 0, 1) := by decide +kernel
theorem dL_law_657 : decode cL_law 657 = .ok (.iload 5, 2) := by decide +kernel
theorem dL_law_659 : decode cL_law 659 = .ok (.iconst 2, 1) := by decide +kernel
theorem dL_law_660 : decode cL_law 660 = .ok (.iadd, 1) := by decide +kernel
theorem dL_law_661 : decode cL_law 661 = .ok (.iaload, 1) := by decide +kernel
theorem dL_law_662 : decode cL_law 662 = .ok (.invokevirtual 190, 3) := by decide +kernel
theorem dL_law_665 : decode cL_law 665 = .ok (.istore 7, 2) := by decide +kernel
theorem dL_law_667 : decode cL_law 667 = .ok (.aload_n 2, 1) := by decide +kernel
theorem dL_law_668 : decode cL_law 668 = .ok (.invokevirtual 167, 3) := by decide +kernel
theorem dL_law_671 : decode cL_law 671 = .ok (.iload 6, 2) := by decide +kernel
theorem dL_law_673 : decode cL_law 673 = .ok (.if_icmp .eq 5, 3) := by decide +kernel
theorem dL_law_676 : decode cL_law 676 = .ok (.iconst 0, 1) := by decide +kernel
theorem dL_law_677 : decode cL_law 677 = .ok (.ireturn, 1) := by decide +kernel
theorem dL_law_678 : decode cL_law 678 = .ok (.iload 6, 2) := by decide +kernel
theorem dL_law_680 : decode cL_law 680 = .ok (.ifCond .ne 22, 3) := by decide +kernel
theorem dL_law_683 : decode cL_law 683 = .ok (.aload_n 3, 1) := by decide +kernel
theorem dL_law_684 : decode cL_law 684 = .ok (.iconst 0, 1) := by decide +kernel
theorem dL_law_685 : decode cL_law 685 = .ok (.laload, 1) := by decide +kernel
theorem dL_law_686 : decode cL_law 686 = .ok (.iload 7, 2) := by decide +kernel
theorem dL_law_688 : decode cL_law 688 = .ok (.ifCond .eq 7, 3) := by decide +kernel
theorem dL_law_691 : decode cL_law 691 = .ok (.lconst 1, 1) := by decide +kernel
theorem dL_law_692 : decode cL_law 692 = .ok (.goto 4, 3) := by decide +kernel
theorem dL_law_695 : decode cL_law 695 = .ok (.lconst 0, 1) := by decide +kernel
theorem dL_law_696 : decode cL_law 696 = .ok (.lcmp, 1) := by decide +kernel
theorem dL_law_697 : decode cL_law 697 = .ok (.ifCond .eq 5, 3) := by decide +kernel
theorem dL_law_700 : decode cL_law 700 = .ok (.iconst 0, 1) := by decide +kernel
theorem dL_law_701 : decode cL_law 701 = .ok (.ireturn, 1) := by decide +kernel
theorem dL_law_702 : decode cL_law 702 = .ok (.goto 2395, 3) := by decide +kernel
theorem dL_law_705 : decode cL_law 705 = .ok (.aload_n 1, 1) := by decide +kernel
theorem dL_law_706 : decode cL_law 706 = .ok (.aload_n 0, 1) := by decide +kernel
theorem dL_law_707 : decode cL_law 707 = .ok (.iload 5, 2) := by decide +kernel
theorem dL_law_709 : decode cL_law 709 = .ok (.iconst 1, 1) := by decide +kernel
theorem dL_law_710 : decode cL_law 710 = .ok (.iadd, 1) := by decide +kernel
theorem dL_law_711 : decode cL_law 711 = .ok (.iaload, 1) := by decide +kernel
theorem dL_law_712 : decode cL_law 712 = .ok (.aload_n 0, 1) := by decide +kernel
theorem dL_law_713 : decode cL_law 713 = .ok (.iload 5, 2) := by decide +kernel
theorem dL_law_715 : decode cL_law 715 = .ok (.iconst 2, 1) := by decide +kernel
theorem dL_law_716 : decode cL_law 716 = .ok (.iadd, 1) := by decide +kernel
theorem dL_law_717 : decode cL_law 717 = .ok (.iaload, 1) := by decide +kernel
theorem dL_law_718 : decode cL_law 718 = .ok (.aload_n 0, 1) := by decide +kernel
theorem dL_law_719 : decode cL_law 719 = .ok (.iload 5, 2) := by decide +kernel
theorem dL_law_721 : decode cL_law 721 = .ok (.iconst 3, 1) := by decide +kernel
theorem dL_law_722 : decode cL_law 722 = .ok (.iadd, 1) := by decide +kernel
theorem dL_law_723 : decode cL_law 723 = .ok (.iaload, 1) := by decide +kernel
theorem dL_law_724 : decode cL_law 724 = .ok (.ifCond .eq 7, 3) := by decide +kernel
theorem dL_law_727 : decode cL_law 727 = .ok (.iconst 1, 1) := by decide +kernel
theorem dL_law_728 : decode cL_law 728 = .ok (.goto 4, 3) := by decide +kernel
theorem dL_law_731 : decode cL_law 731 = .ok (.iconst 0, 1) := by decide +kernel
theorem dL_law_732 : decode cL_law 732 = .ok (.aload_n 3, 1) := by decide +kernel
theorem dL_law_733 : decode cL_law 733 = .ok (.invokestatic 191, 3) := by decide +kernel
theorem dL_law_736 : decode cL_law 736 = .ok (.istore 6, 2) := by decide +kernel
theorem dL_law_738 : decode cL_law 738 = .ok (.aload_n 2, 1) := by decide +kernel
theorem dL_law_739 : decode cL_law 739 = .ok (.aload_n 0, 1) := by decide +kernel
theorem dL_law_740 : decode cL_law 740 = .ok (.iload 5, 2) := by decide +kernel
theorem dL_law_742 : decode cL_law 742 = .ok (.iconst 1, 1) := by decide +kernel
theorem dL_law_743 : decode cL_law 743 = .ok (.iadd, 1) := by decide +kernel
theorem dL_law_744 : decode cL_law 744 = .ok (.iaload, 1) := by decide +kernel
theorem dL_law_745 : decode cL_law 745 = .ok (.aload_n 0, 1) := by decide +kernel
theorem dL_law_746 : decode cL_law 746 = .ok (.iload 5, 2) := by decide +kernel
theorem dL_law_748 : decode cL_law 748 = .ok (.iconst 2, 1) := by decide +kernel
theorem dL_law_749 : decode cL_law 749 = .ok (.iadd, 1) := by decide +kernel
theorem dL_law_750 : decode cL_law 750 = .ok (.iaload, 1) := by decide +kernel
theorem dL_law_751 : decode cL_law 751 = .ok (.aload_n 0, 1) := by decide +kernel
theorem dL_law_752 : decode cL_law 752 = .ok (.iload 5, 2) := by decide +kernel
theorem dL_law_754 : decode cL_law 754 = .ok (.iconst 3, 1) := by decide +kernel
theorem dL_law_755 : decode cL_law 755 = .ok (.iadd, 1) := by decide +kernel
theorem dL_law_756 : decode cL_law 756 = .ok (.iaload, 1) := by decide +kernel
theorem dL_law_757 : decode cL_law 757 = .ok (.ifCond .eq 7, 3) := by decide +kernel
theorem dL_law_760 : decode cL_law 760 = .ok (.iconst 1, 1) := by decide +kernel
theorem dL_law_761 : decode cL_law 761 = .ok (.goto 4, 3) := by decide +kernel
theorem dL_law_764 : decode cL_law 764 = .ok (.iconst 0, 1) := by decide +kernel
theorem dL_law_765 : decode cL_law 765 = .ok (.invokevirtual 194, 3) := by decide +kernel
theorem dL_law_768 : decode cL_law 768 = .ok (.istore 7, 2) := by decide +kernel
theorem dL_law_770 : decode cL_law 770 = .ok (.aload_n 2, 1) := by decide +kernel
theorem dL_law_771 : decode cL_law 771 = .ok (.invokevirtual 167, 3) := by decide +kernel
theorem dL_law_774 : decode cL_law 774 = .ok (.iload 6, 2) := by decide +kernel
theorem dL_law_776 : decode cL_law 776 = .ok (.if_icmp .eq 5, 3) := by decide +kernel
theorem dL_law_779 : decode cL_law 779 = .ok (.iconst 0, 1) := by decide +kernel
theorem dL_law_780 : decode cL_law 780 = .ok (.ireturn, 1) := by decide +kernel
theorem dL_law_781 : decode cL_law 781 = .ok (.iload 6, 2) := by decide +kernel
theorem dL_law_783 : decode cL_law 783 = .ok (.ifCond .ne 15, 3) := by decide +kernel
theorem dL_law_786 : decode cL_law 786 = .ok (.aload_n 3, 1) := by decide +kernel
theorem dL_law_787 : decode cL_law 787 = .ok (.iconst 0, 1) := by decide +kernel
theorem dL_law_788 : decode cL_law 788 = .ok (.laload, 1) := by decide +kernel
theorem dL_law_789 : decode cL_law 789 = .ok (.iload 7, 2) := by decide +kernel
theorem dL_law_791 : decode cL_law 791 = .ok (.i2l, 1) := by decide +kernel
theorem dL_law_792 : decode cL_law 792 = .ok (.lcmp, 1) := by decide +kernel
theorem dL_law_793 : decode cL_law 793 = .ok (.ifCond .eq 5, 3) := by decide +kernel
theorem dL_law_796 : decode cL_law 796 = .ok (.iconst 0, 1) := by decide +kernel
theorem dL_law_797 : decode cL_law 797 = .ok (.ireturn, 1) := by decide +kernel
theorem dL_law_798 : decode cL_law 798 = .ok (.goto 2299, 3) := by decide +kernel
theorem dL_law_801 : decode cL_law 801 = .ok (.aload_n 1, 1) := by decide +kernel
theorem dL_law_802 : decode cL_law 802 = .ok (.aload_n 0, 1) := by decide +kernel
theorem dL_law_803 : decode cL_law 803 = .ok (.iload 5, 2) := by decide +kernel
theorem dL_law_805 : decode cL_law 805 = .ok (.iconst 1, 1) := by decide +kernel
theorem dL_law_806 : decode cL_law 806 = .ok (.iadd, 1) := by decide +kernel
theorem dL_law_807 : decode cL_law 807 = .ok (.iaload, 1) := by decide +kernel
theorem dL_law_808 : decode cL_law 808 = .ok (.aload_n 3, 1) := by decide +kernel
theorem dL_law_809 : decode cL_law 809 = .ok (.invokestatic 195, 3) := by decide +kernel
theorem dL_law_812 : decode cL_law 812 = .ok (.istore 6, 2) := by decide +kernel
theorem dL_law_814 : decode cL_law 814 = .ok (.aload_n 2, 1) := by decide +kernel
theorem dL_law_815 : decode cL_law 815 = .ok (.aload_n 0, 1) := by decide +kernel
theorem dL_law_816 : decode cL_law 816 = .ok (.iload 5, 2) := by decide +kernel
theorem dL_law_818 : decode cL_law 818 = .ok (.iconst 1, 1) := by decide +kernel
theorem dL_law_819 : decode cL_law 819 = .ok (.iadd, 1) := by decide +kernel
theorem dL_law_820 : decode cL_law 820 = .ok (.iaload, 1) := by decide +kernel
theorem dL_law_821 : decode cL_law 821 = .ok (.invokevirtual 197, 3) := by decide +kernel
theorem dL_law_824 : decode cL_law 824 = .ok (.istore 7, 2) := by decide +kernel
theorem dL_law_826 : decode cL_law 826 = .ok (.aload_n 2, 1) := by decide +kernel
theorem dL_law_827 : decode cL_law 827 = .ok (.invokevirtual 167, 3) := by decide +kernel
theorem dL_law_830 : decode cL_law 830 = .ok (.iload 6, 2) := by decide +kernel
theorem dL_law_832 : decode cL_law 832 = .ok (.if_icmp .eq 5, 3) := by decide +kernel
theorem dL_law_835 : decode cL_law 835 = .ok (.iconst 0, 1) := by decide +kernel
theorem dL_law_836 : decode cL_law 836 = .ok (.ireturn, 1) := by decide +kernel
theorem dL_law_837 : decode cL_law 837 = .ok (.iload 6, 2) := by decide +kernel
theorem dL_law_839 : decode cL_law 839 = .ok (.ifCond .ne 15, 3) := by decide +kernel
theorem dL_law_842 : decode cL_law 842 = .ok (.aload_n 3, 1) := by decide +kernel
theorem dL_law_843 : decode cL_law 843 = .ok (.iconst 0, 1) := by decide +kernel
theorem dL_law_844 : decode cL_law 844 = .ok (.laload, 1) := by decide +kernel
theorem dL_law_845 : decode cL_law 845 = .ok (.iload 7, 2) := by decide +kernel
theorem dL_law_847 : decode cL_law 847 = .ok (.i2l, 1) := by decide +kernel
theorem dL_law_848 : decode cL_law 848 = .ok (.lcmp, 1) := by decide +kernel
theorem dL_law_849 : decode cL_law 849 = .ok (.ifCond .eq 5, 3) := by decide +kernel
theorem dL_law_852 : decode cL_law 852 = .ok (.iconst 0, 1) := by decide +kernel
theorem dL_law_853 : decode cL_law 853 = .ok (.ireturn, 1) := by decide +kernel
theorem dL_law_854 : decode cL_law 854 = .ok (.goto 2243, 3) := by decide +kernel
theorem dL_law_857 : decode cL_law 857 = .ok (.aload_n 1, 1) := by decide +kernel
theorem dL_law_858 : decode cL_law 858 = .ok (.aload_n 0, 1) := by decide +kernel
theorem dL_law_859 : decode cL_law 859 = .ok (.iload 5, 2) := by decide +kernel
theorem dL_law_861 : decode cL_law 861 = .ok (.iconst 1, 1) := by decide +kernel
theorem dL_law_862 : decode cL_law 862 = .ok (.iadd, 1) := by decide +kernel
theorem dL_law_863 : decode cL_law 863 = .ok (.iaload, 1) := by decide +kernel
theorem dL_law_864 : decode cL_law 864 = .ok (.aload_n 3, 1) := by decide +kernel
theorem dL_law_865 : decode cL_law 865 = .ok (.invokestatic 198, 3) := by decide +kernel
theorem dL_law_868 : decode cL_law 868 = .ok (.istore 6, 2) := by decide +kernel
theorem dL_law_870 : decode cL_law 870 = .ok (.aload_n 2, 1) := by decide +kernel
theorem dL_law_871 : decode cL_law 871 = .ok (.aload_n 0, 1) := by decide +kernel
theorem dL_law_872 : decode cL_law 872 = .ok (.iload 5, 2) := by decide +kernel
theorem dL_law_874 : decode cL_law 874 = .ok (.iconst 1, 1) := by decide +kernel
theorem dL_law_875 : decode cL_law 875 = .ok (.iadd, 1) := by decide +kernel
theorem dL_law_876 : decode cL_law 876 = .ok (.iaload, 1) := by decide +kernel
theorem dL_law_877 : decode cL_law 877 = .ok (.invokevirtual 200, 3) := by decide +kernel
theorem dL_law_880 : decode cL_law 880 = .ok (.istore 7, 2) := by decide +kernel
theorem dL_law_882 : decode cL_law 882 = .ok (.aload_n 2, 1) := by decide +kernel
theorem dL_law_883 : decode cL_law 883 = .ok (.invokevirtual 167, 3) := by decide +kernel
theorem dL_law_886 : decode cL_law 886 = .ok (.iload 6, 2) := by decide +kernel
theorem dL_law_888 : decode cL_law 888 = .ok (.if_icmp .eq 5, 3) := by decide +kernel
theorem dL_law_891 : decode cL_law 891 = .ok (.iconst 0, 1) := by decide +kernel
theorem dL_law_892 : decode cL_law 892 = .ok (.ireturn, 1) := by decide +kernel
theorem dL_law_893 : decode cL_law 893 = .ok (.iload 6, 2) := by decide +kernel
theorem dL_law_895 : decode cL_law 895 = .ok (.ifCond .ne 22, 3) := by decide +kernel
theorem dL_law_898 : decode cL_law 898 = .ok (.aload_n 3, 1) := by decide +kernel
theorem dL_law_899 : decode cL_law 899 = .ok (.iconst 0, 1) := by decide +kernel
theorem dL_law_900 : decode cL_law 900 = .ok (.laload, 1) := by decide +kernel
theorem dL_law_901 : decode cL_law 901 = .ok (.iload 7, 2) := by decide +kernel
theorem dL_law_903 : decode cL_law 903 = .ok (.ifCond .eq 7, 3) := by decide +kernel
theorem dL_law_906 : decode cL_law 906 = .ok (.lconst 1, 1) := by decide +kernel
theorem dL_law_907 : decode cL_law 907 = .ok (.goto 4, 3) := by decide +kernel
theorem dL_law_910 : decode cL_law 910 = .ok (.lconst 0, 1) := by decide +kernel
theorem dL_law_911 : decode cL_law 911 = .ok (.lcmp, 1) := by decide +kernel
theorem dL_law_912 : decode cL_law 912 = .ok (.ifCond .eq 5, 3) := by decide +kernel
theorem dL_law_915 : decode cL_law 915 = .ok (.iconst 0, 1) := by decide +kernel
theorem dL_law_916 : decode cL_law 916 = .ok (.ireturn, 1) := by decide +kernel
theorem dL_law_917 : decode cL_law 917 = .ok (.goto 2180, 3) := by decide +kernel
theorem dL_law_920 : decode cL_law 920 = .ok (.aload_n 1, 1) := by decide +kernel
theorem dL_law_921 : decode cL_law 921 = .ok (.aload_n 0, 1) := by decide +kernel
theorem dL_law_922 : decode cL_law 922 = .ok (.iload 5, 2) := by decide +kernel
theorem dL_law_924 : decode cL_law 924 = .ok (.iconst 1, 1) := by decide +kernel
theorem dL_law_925 : decode cL_law 925 = .ok (.iadd, 1) := by decide +kernel
theorem dL_law_926 : decode cL_law 926 = .ok (.iaload, 1) := by decide +kernel
theorem dL_law_927 : decode cL_law 927 = .ok (.aload_n 3, 1) := by decide +kernel
theorem dL_law_928 : decode cL_law 928 = .ok (.invokestatic 201, 3) := by decide +kernel
theorem dL_law_931 : decode cL_law 931 = .ok (.istore 6, 2) := by decide +kernel
theorem dL_law_933 : decode cL_law 933 = .ok (.aload_n 2, 1) := by decide +kernel
theorem dL_law_934 : decode cL_law 934 = .ok (.aload_n 0, 1) := by decide +kernel
theorem dL_law_935 : decode cL_law 935 = .ok (.iload 5, 2) := by decide +kernel
theorem dL_law_937 : decode cL_law 937 = .ok (.iconst 1, 1) := by decide +kernel
theorem dL_law_938 : decode cL_law 938 = .ok (.iadd, 1) := by decide +kernel
theorem dL_law_939 : decode cL_law 939 = .ok (.iaload, 1) := by decide +kernel
theorem dL_law_940 : decode cL_law 940 = .ok (.invokevirtual 203, 3) := by decide +kernel
theorem dL_law_943 : decode cL_law 943 = .ok (.istore 7, 2) := by decide +kernel
theorem dL_law_945 : decode cL_law 945 = .ok (.aload_n 2, 1) := by decide +kernel
theorem dL_law_946 : decode cL_law 946 = .ok (.invokevirtual 167, 3) := by decide +kernel
theorem dL_law_949 : decode cL_law 949 = .ok (.iload 6, 2) := by decide +kernel
theorem dL_law_951 : decode cL_law 951 = .ok (.if_icmp .eq 5, 3) := by decide +kernel
theorem dL_law_954 : decode cL_law 954 = .ok (.iconst 0, 1) := by decide +kernel
theorem dL_law_955 : decode cL_law 955 = .ok (.ireturn, 1) := by decide +kernel
theorem dL_law_956 : decode cL_law 956 = .ok (.iload 6, 2) := by decide +kernel
theorem dL_law_958 : decode cL_law 958 = .ok (.ifCond .ne 22, 3) := by decide +kernel
theorem dL_law_961 : decode cL_law 961 = .ok (.aload_n 3, 1) := by decide +kernel
theorem dL_law_962 : decode cL_law 962 = .ok (.iconst 0, 1) := by decide +kernel
theorem dL_law_963 : decode cL_law 963 = .ok (.laload, 1) := by decide +kernel
theorem dL_law_964 : decode cL_law 964 = .ok (.iload 7, 2) := by decide +kernel
theorem dL_law_966 : decode cL_law 966 = .ok (.ifCond .eq 7, 3) := by decide +kernel
theorem dL_law_969 : decode cL_law 969 = .ok (.lconst 1, 1) := by decide +kernel
theorem dL_law_970 : decode cL_law 970 = .ok (.goto 4, 3) := by decide +kernel
theorem dL_law_973 : decode cL_law 973 = .ok (.lconst 0, 1) := by decide +kernel
theorem dL_law_974 : decode cL_law 974 = .ok (.lcmp, 1) := by decide +kernel
theorem dL_law_975 : decode cL_law 975 = .ok (.ifCond .eq 5, 3) := by decide +kernel
theorem dL_law_978 : decode cL_law 978 = .ok (.iconst 0, 1) := by decide +kernel
theorem dL_law_979 : decode cL_law 979 = .ok (.ireturn, 1) := by decide +kernel
theorem dL_law_980 : decode cL_law 980 = .ok (.goto 2117, 3) := by decide +kernel
theorem dL_law_983 : decode cL_law 983 = .ok (.aload_n 1, 1) := by decide +kernel
theorem dL_law_984 : decode cL_law 984 = .ok (.aload_n 0, 1) := by decide +kernel
theorem dL_law_985 : decode cL_law 985 = .ok (.iload 5, 2) := by decide +kernel
theorem dL_law_987 : decode cL_law 987 = .ok (.iconst 1, 1) := by decide +kernel
theorem dL_law_988 : decode cL_law 988 = .ok (.iadd, 1) := by decide +kernel
theorem dL_law_989 : decode cL_law 989 = .ok (.iaload, 1) := by decide +kernel
theorem dL_law_990 : decode cL_law 990 = .ok (.aload_n 0, 1) := by decide +kernel
theorem dL_law_991 : decode cL_law 991 = .ok (.iload 5, 2) := by decide +kernel
theorem dL_law_993 : decode cL_law 993 = .ok (.iconst 2, 1) := by decide +kernel
theorem dL_law_994 : decode cL_law 994 = .ok (.iadd, 1) := by decide +kernel
theorem dL_law_995 : decode cL_law 995 = .ok (.iaload, 1) := by decide +kernel
theorem dL_law_996 : decode cL_law 996 = .ok (.aload_n 0, 1) := by decide +kernel
theorem dL_law_997 : decode cL_law 997 = .ok (.iload 5, 2) := by decide +kernel
theorem dL_law_999 : decode cL_law 999 = .ok (.iconst 3, 1) := by decide +kernel
theorem dL_law_1000 : decode cL_law 1000 = .ok (.iadd, 1) := by decide +kernel
theorem dL_law_1001 : decode cL_law 1001 = .ok (.iaload, 1) := by decide +kernel
theorem dL_law_1002 : decode cL_law 1002 = .ok (.aload_n 3, 1) := by decide +kernel
theorem dL_law_1003 : decode cL_law 1003 = .ok (.invokestatic 204, 3) := by decide +kernel
theorem dL_law_1006 : decode cL_law 1006 = .ok (.istore 6, 2) := by decide +kernel
theorem dL_law_1008 : decode cL_law 1008 = .ok (.aload_n 2, 1) := by decide +kernel
theorem dL_law_1009 : decode cL_law 1009 = .ok (.aload_n 0, 1) := by decide +kernel
theorem dL_law_1010 : decode cL_law 1010 = .ok (.iload 5, 2) := by decide +kernel
theorem dL_law_1012 : decode cL_law 1012 = .ok (.iconst 1, 1) := by decide +kernel
theorem dL_law_1013 : decode cL_law 1013 = .ok (.iadd, 1) := by decide +kernel
theorem dL_law_1014 : decode cL_law 1014 = .ok (.iaload, 1) := by decide +kernel
theorem dL_law_1015 : decode cL_law 1015 = .ok (.aload_n 0, 1) := by decide +kernel
theorem dL_law_1016 : decode cL_law 1016 = .ok (.iload 5, 2) := by decide +kernel
theorem dL_law_1018 : decode cL_law 1018 = .ok (.iconst 2, 1) := by decide +kernel
theorem dL_law_1019 : decode cL_law 1019 = .ok (.iadd, 1) := by decide +kernel
theorem dL_law_1020 : decode cL_law 1020 = .ok (.iaload, 1) := by decide +kernel
theorem dL_law_1021 : decode cL_law 1021 = .ok (.aload_n 0, 1) := by decide +kernel
theorem dL_law_1022 : decode cL_law 1022 = .ok (.iload 5, 2) := by decide +kernel
theorem dL_law_1024 : decode cL_law 1024 = .ok (.iconst 3, 1) := by decide +kernel
theorem dL_law_1025 : decode cL_law 1025 = .ok (.iadd, 1) := by decide +kernel
theorem dL_law_1026 : decode cL_law 1026 = .ok (.iaload, 1) := by decide +kernel
theorem dL_law_1027 : decode cL_law 1027 = .ok (.invokevirtual 206, 3) := by decide +kernel
theorem dL_law_1030 : decode cL_law 1030 = .ok (.istore 7, 2) := by decide +kernel
theorem dL_law_1032 : decode cL_law 1032 = .ok (.aload_n 2, 1) := by decide +kernel
theorem dL_law_1033 : decode cL_law 1033 = .ok (.invokevirtual 167, 3) := by decide +kernel
theorem dL_law_1036 : decode cL_law 1036 = .ok (.iload 6, 2) := by decide +kernel
theorem dL_law_1038 : decode cL_law 1038 = .ok (.if_icmp .eq 5, 3) := by decide +kernel
theorem dL_law_1041 : decode cL_law 1041 = .ok (.iconst 0, 1) := by decide +kernel
theorem dL_law_1042 : decode cL_law 1042 = .ok (.ireturn, 1) := by decide +kernel
theorem dL_law_1043 : decode cL_law 1043 = .ok (.iload 6, 2) := by decide +kernel
theorem dL_law_1045 : decode cL_law 1045 = .ok (.ifCond .ne 15, 3) := by decide +kernel
theorem dL_law_1048 : decode cL_law 1048 = .ok (.aload_n 3, 1) := by decide +kernel
theorem dL_law_1049 : decode cL_law 1049 = .ok (.iconst 0, 1) := by decide +kernel
theorem dL_law_1050 : decode cL_law 1050 = .ok (.laload, 1) := by decide +kernel
theorem dL_law_1051 : decode cL_law 1051 = .ok (.iload 7, 2) := by decide +kernel
theorem dL_law_1053 : decode cL_law 1053 = .ok (.i2l, 1) := by decide +kernel
theorem dL_law_1054 : decode cL_law 1054 = .ok (.lcmp, 1) := by decide +kernel
theorem dL_law_1055 : decode cL_law 1055 = .ok (.ifCond .eq 5, 3) := by decide +kernel
theorem dL_law_1058 : decode cL_law 1058 = .ok (.iconst 0, 1) := by decide +kernel
theorem dL_law_1059 : decode cL_law 1059 = .ok (.ireturn, 1) := by decide +kernel
theorem dL_law_1060 : decode cL_law 1060 = .ok (.goto 2037, 3) := by decide +kernel
theorem dL_law_1063 : decode cL_law 1063 = .ok (.aload_n 1, 1) := by decide +kernel
theorem dL_law_1064 : decode cL_law 1064 = .ok (.aload_n 0, 1) := by decide +kernel
theorem dL_law_1065 : decode cL_law 1065 = .ok (.iload 5, 2) := by decide +kernel
theorem dL_law_1067 : decode cL_law 1067 = .ok (.iconst 1, 1) := by decide +kernel
theorem dL_law_1068 : decode cL_law 1068 = .ok (.iadd, 1) := by decide +kernel
theorem dL_law_1069 : decode cL_law 1069 = .ok (.iaload, 1) := by decide +kernel
theorem dL_law_1070 : decode cL_law 1070 = .ok (.aload_n 0, 1) := by decide +kernel
theorem dL_law_1071 : decode cL_law 1071 = .ok (.iload 5, 2) := by decide +kernel
theorem dL_law_1073 : decode cL_law 1073 = .ok (.iconst 2, 1) := by decide +kernel
theorem dL_law_1074 : decode cL_law 1074 = .ok (.iadd, 1) := by decide +kernel
theorem dL_law_1075 : decode cL_law 1075 = .ok (.iaload, 1) := by decide +kernel
theorem dL_law_1076 : decode cL_law 1076 = .ok (.aload_n 3, 1) := by decide +kernel
theorem dL_law_1077 : decode cL_law 1077 = .ok (.invokestatic 207, 3) := by decide +kernel
theorem dL_law_1080 : decode cL_law 1080 = .ok (.istore 6, 2) := by decide +kernel
theorem dL_law_1082 : decode cL_law 1082 = .ok (.aload_n 2, 1) := by decide +kernel
theorem dL_law_1083 : decode cL_law 1083 = .ok (.aload_n 0, 1) := by decide +kernel
theorem dL_law_1084 : decode cL_law 1084 = .ok (.iload 5, 2) := by decide +kernel
theorem dL_law_1086 : decode cL_law 1086 = .ok (.iconst 1, 1) := by decide +kernel
theorem dL_law_1087 : decode cL_law 1087 = .ok (.iadd, 1) := by decide +kernel
theorem dL_law_1088 : decode cL_law 1088 = .ok (.iaload, 1) := by decide +kernel
theorem dL_law_1089 : decode cL_law 1089 = .ok (.aload_n 0, 1) := by decide +kernel
theorem dL_law_1090 : decode cL_law 1090 = .ok (.iload 5, 2) := by decide +kernel
theorem dL_law_1092 : decode cL_law 1092 = .ok (.iconst 2, 1) := by decide +kernel
theorem dL_law_1093 : decode cL_law 1093 = .ok (.iadd, 1) := by decide +kernel
theorem dL_law_1094 : decode cL_law 1094 = .ok (.iaload, 1) := by decide +kernel
theorem dL_law_1095 : decode cL_law 1095 = .ok (.invokevirtual 209, 3) := by decide +kernel
theorem dL_law_1098 : decode cL_law 1098 = .ok (.istore 7, 2) := by decide +kernel
theorem dL_law_1100 : decode cL_law 1100 = .ok (.aload_n 2, 1) := by decide +kernel
theorem dL_law_1101 : decode cL_law 1101 = .ok (.invokevirtual 167, 3) := by decide +kernel
theorem dL_law_1104 : decode cL_law 1104 = .ok (.iload 6, 2) := by decide +kernel
theorem dL_law_1106 : decode cL_law 1106 = .ok (.if_icmp .eq 5, 3) := by decide +kernel
theorem dL_law_1109 : decode cL_law 1109 = .ok (.iconst 0, 1) := by decide +kernel
theorem dL_law_1110 : decode cL_law 1110 = .ok (.ireturn, 1) := by decide +kernel
theorem dL_law_1111 : decode cL_law 1111 = .ok (.iload 6, 2) := by decide +kernel
theorem dL_law_1113 : decode cL_law 1113 = .ok (.ifCond .ne 15, 3) := by decide +kernel
theorem dL_law_1116 : decode cL_law 1116 = .ok (.aload_n 3, 1) := by decide +kernel
theorem dL_law_1117 : decode cL_law 1117 = .ok (.iconst 0, 1) := by decide +kernel
theorem dL_law_1118 : decode cL_law 1118 = .ok (.laload, 1) := by decide +kernel
theorem dL_law_1119 : decode cL_law 1119 = .ok (.iload 7, 2) := by decide +kernel
theorem dL_law_1121 : decode cL_law 1121 = .ok (.i2l, 1) := by decide +kernel
theorem dL_law_1122 : decode cL_law 1122 = .ok (.lcmp, 1) := by decide +kernel
theorem dL_law_1123 : decode cL_law 1123 = .ok (.ifCond .eq 5, 3) := by decide +kernel
theorem dL_law_1126 : decode cL_law 1126 = .ok (.iconst 0, 1) := by decide +kernel
theorem dL_law_1127 : decode cL_law 1127 = .ok (.ireturn, 1) := by decide +kernel
theorem dL_law_1128 : decode cL_law 1128 = .ok (.goto 1969, 3) := by decide +kernel
theorem dL_law_1131 : decode cL_law 1131 = .ok (.aload_n 1, 1) := by decide +kernel
theorem dL_law_1132 : decode cL_law 1132 = .ok (.aload_n 0, 1) := by decide +kernel
theorem dL_law_1133 : decode cL_law 1133 = .ok (.iload 5, 2) := by decide +kernel
theorem dL_law_1135 : decode cL_law 1135 = .ok (.iconst 1, 1) := by decide +kernel
theorem dL_law_1136 : decode cL_law 1136 = .ok (.iadd, 1) := by decide +kernel
theorem dL_law_1137 : decode cL_law 1137 = .ok (.iaload, 1) := by decide +kernel
theorem dL_law_1138 : decode cL_law 1138 = .ok (.aload_n 0, 1) := by decide +kernel
theorem dL_law_1139 : decode cL_law 1139 = .ok (.iload 5, 2) := by decide +kernel
theorem dL_law_1141 : decode cL_law 1141 = .ok (.iconst 2, 1) := by decide +kernel
theorem dL_law_1142 : decode cL_law 1142 = .ok (.iadd, 1) := by decide +kernel
theorem dL_law_1143 : decode cL_law 1143 = .ok (.iaload, 1) := by decide +kernel
theorem dL_law_1144 : decode cL_law 1144 = .ok (.aload_n 0, 1) := by decide +kernel
theorem dL_law_1145 : decode cL_law 1145 = .ok (.iload 5, 2) := by decide +kernel
theorem dL_law_1147 : decode cL_law 1147 = .ok (.iconst 3, 1) := by decide +kernel
theorem dL_law_1148 : decode cL_law 1148 = .ok (.iadd, 1) := by decide +kernel
theorem dL_law_1149 : decode cL_law 1149 = .ok (.iaload, 1) := by decide +kernel
theorem dL_law_1150 : decode cL_law 1150 = .ok (.aload_n 3, 1) := by decide +kernel
theorem dL_law_1151 : decode cL_law 1151 = .ok (.invokestatic 210, 3) := by decide +kernel
theorem dL_law_1154 : decode cL_law 1154 = .ok (.istore 6, 2) := by decide +kernel
theorem dL_law_1156 : decode cL_law 1156 = .ok (.aload_n 2, 1) := by decide +kernel
theorem dL_law_1157 : decode cL_law 1157 = .ok (.aload_n 0, 1) := by decide +kernel
theorem dL_law_1158 : decode cL_law 1158 = .ok (.iload 5, 2) := by decide +kernel
theorem dL_law_1160 : decode cL_law 1160 = .ok (.iconst 1, 1) := by decide +kernel
theorem dL_law_1161 : decode cL_law 1161 = .ok (.iadd, 1) := by decide +kernel
theorem dL_law_1162 : decode cL_law 1162 = .ok (.iaload, 1) := by decide +kernel
theorem dL_law_1163 : decode cL_law 1163 = .ok (.aload_n 0, 1) := by decide +kernel
theorem dL_law_1164 : decode cL_law 1164 = .ok (.iload 5, 2) := by decide +kernel
theorem dL_law_1166 : decode cL_law 1166 = .ok (.iconst 2, 1) := by decide +kernel
theorem dL_law_1167 : decode cL_law 1167 = .ok (.iadd, 1) := by decide +kernel
theorem dL_law_1168 : decode cL_law 1168 = .ok (.iaload, 1) := by decide +kernel
theorem dL_law_1169 : decode cL_law 1169 = .ok (.aload_n 0, 1) := by decide +kernel
theorem dL_law_1170 : decode cL_law 1170 = .ok (.iload 5, 2) := by decide +kernel
theorem dL_law_1172 : decode cL_law 1172 = .ok (.iconst 3, 1) := by decide +kernel
theorem dL_law_1173 : decode cL_law 1173 = .ok (.iadd, 1) := by decide +kernel
theorem dL_law_1174 : decode cL_law 1174 = .ok (.iaload, 1) := by decide +kernel
theorem dL_law_1175 : decode cL_law 1175 = .ok (.invokevirtual 212, 3) := by decide +kernel
theorem dL_law_1178 : decode cL_law 1178 = .ok (.istore 7, 2) := by decide +kernel
theorem dL_law_1180 : decode cL_law 1180 = .ok (.aload_n 2, 1) := by decide +kernel
theorem dL_law_1181 : decode cL_law 1181 = .ok (.invokevirtual 167, 3) := by decide +kernel
theorem dL_law_1184 : decode cL_law 1184 = .ok (.iload 6, 2) := by decide +kernel
theorem dL_law_1186 : decode cL_law 1186 = .ok (.if_icmp .eq 5, 3) := by decide +kernel
theorem dL_law_1189 : decode cL_law 1189 = .ok (.iconst 0, 1) := by decide +kernel
theorem dL_law_1190 : decode cL_law 1190 = .ok (.ireturn, 1) := by decide +kernel
theorem dL_law_1191 : decode cL_law 1191 = .ok (.iload 6, 2) := by decide +kernel
theorem dL_law_1193 : decode cL_law 1193 = .ok (.ifCond .ne 15, 3) := by decide +kernel
theorem dL_law_1196 : decode cL_law 1196 = .ok (.aload_n 3, 1) := by decide +kernel
theorem dL_law_1197 : decode cL_law 1197 = .ok (.iconst 0, 1) := by decide +kernel
theorem dL_law_1198 : decode cL_law 1198 = .ok (.laload, 1) := by decide +kernel
theorem dL_law_1199 : decode cL_law 1199 = .ok (.iload 7, 2) := by decide +kernel
theorem dL_law_1201 : decode cL_law 1201 = .ok (.i2l, 1) := by decide +kernel
theorem dL_law_1202 : decode cL_law 1202 = .ok (.lcmp, 1) := by decide +kernel
theorem dL_law_1203 : decode cL_law 1203 = .ok (.ifCond .eq 5, 3) := by decide +kernel
theorem dL_law_1206 : decode cL_law 1206 = .ok (.iconst 0, 1) := by decide +kernel
theorem dL_law_1207 : decode cL_law 1207 = .ok (.ireturn, 1) := by decide +kernel
theorem dL_law_1208 : decode cL_law 1208 = .ok (.goto 1889, 3) := by decide +kernel
theorem dL_law_1211 : decode cL_law 1211 = .ok (.aload_n 1, 1) := by decide +kernel
theorem dL_law_1212 : decode cL_law 1212 = .ok (.aload_n 3, 1) := by decide +kernel
theorem dL_law_1213 : decode cL_law 1213 = .ok (.invokestatic 213, 3) := by decide +kernel
theorem dL_law_1216 : decode cL_law 1216 = .ok (.istore 6, 2) := by decide +kernel
theorem dL_law_1218 : decode cL_law 1218 = .ok (.aload_n 2, 1) := by decide +kernel
theorem dL_law_1219 : decode cL_law 1219 = .ok (.invokevirtual 216, 3) := by decide +kernel
theorem dL_law_1222 : decode cL_law 1222 = .ok (.istore 7, 2) := by decide +kernel
theorem dL_law_1224 : decode cL_law 1224 = .ok (.aload_n 2, 1) := by decide +kernel
theorem dL_law_1225 : decode cL_law 1225 = .ok (.invokevirtual 167, 3) := by decide +kernel
theorem dL_law_1228 : decode cL_law 1228 = .ok (.iload 6, 2) := by decide +kernel
theorem dL_law_1230 : decode cL_law 1230 = .ok (.if_icmp .eq 5, 3) := by decide +kernel
theorem dL_law_1233 : decode cL_law 1233 = .ok (.iconst 0, 1) := by decide +kernel
theorem dL_law_1234 : decode cL_law 1234 = .ok (.ireturn, 1) := by decide +kernel
theorem dL_law_1235 : decode cL_law 1235 = .ok (.iload 6, 2) := by decide +kernel
theorem dL_law_1237 : decode cL_law 1237 = .ok (.ifCond .ne 15, 3) := by decide +kernel
theorem dL_law_1240 : decode cL_law 1240 = .ok (.aload_n 3, 1) := by decide +kernel
theorem dL_law_1241 : decode cL_law 1241 = .ok (.iconst 0, 1) := by decide +kernel
theorem dL_law_1242 : decode cL_law 1242 = .ok (.laload, 1) := by decide +kernel
theorem dL_law_1243 : decode cL_law 1243 = .ok (.iload 7, 2) := by decide +kernel
theorem dL_law_1245 : decode cL_law 1245 = .ok (.i2l, 1) := by decide +kernel
theorem dL_law_1246 : decode cL_law 1246 = .ok (.lcmp, 1) := by decide +kernel
theorem dL_law_1247 : decode cL_law 1247 = .ok (.ifCond .eq 5, 3) := by decide +kernel
theorem dL_law_1250 : decode cL_law 1250 = .ok (.iconst 0, 1) := by decide +kernel
theorem dL_law_1251 : decode cL_law 1251 = .ok (.ireturn, 1) := by decide +kernel
theorem dL_law_1252 : decode cL_law 1252 = .ok (.goto 1845, 3) := by decide +kernel
theorem dL_law_1255 : decode cL_law 1255 = .ok (.aload_n 1, 1) := by decide +kernel
theorem dL_law_1256 : decode cL_law 1256 = .ok (.aload_n 0, 1) := by decide +kernel
theorem dL_law_1257 : decode cL_law 1257 = .ok (.iload 5, 2) := by decide +kernel
theorem dL_law_1259 : decode cL_law 1259 = .ok (.iconst 1, 1) := by decide +kernel
theorem dL_law_1260 : decode cL_law 1260 = .ok (.iadd, 1) := by decide +kernel
theorem dL_law_1261 : decode cL_law 1261 = .ok (.iaload, 1) := by decide +kernel
theorem dL_law_1262 : decode cL_law 1262 = .ok (.aload_n 0, 1) := by decide +kernel
theorem dL_law_1263 : decode cL_law 1263 = .ok (.iload 5, 2) := by decide +kernel
theorem dL_law_1265 : decode cL_law 1265 = .ok (.iconst 2, 1) := by decide +kernel
theorem dL_law_1266 : decode cL_law 1266 = .ok (.iadd, 1) := by decide +kernel
theorem dL_law_1267 : decode cL_law 1267 = .ok (.iaload, 1) := by decide +kernel
theorem dL_law_1268 : decode cL_law 1268 = .ok (.aload_n 0, 1) := by decide +kernel
theorem dL_law_1269 : decode cL_law 1269 = .ok (.iload 5, 2) := by decide +kernel
theorem dL_law_1271 : decode cL_law 1271 = .ok (.iconst 3, 1) := by decide +kernel
theorem dL_law_1272 : decode cL_law 1272 = .ok (.iadd, 1) := by decide +kernel
theorem dL_law_1273 : decode cL_law 1273 = .ok (.iaload, 1) := by decide +kernel
theorem dL_law_1274 : decode cL_law 1274 = .ok (.aload_n 3, 1) := by decide +kernel
theorem dL_law_1275 : decode cL_law 1275 = .ok (.invokestatic 217, 3) := by decide +kernel
theorem dL_law_1278 : decode cL_law 1278 = .ok (.istore 6, 2) := by decide +kernel
theorem dL_law_1280 : decode cL_law 1280 = .ok (.aload_n 2, 1) := by decide +kernel
theorem dL_law_1281 : decode cL_law 1281 = .ok (.aload_n 0, 1) := by decide +kernel
theorem dL_law_1282 : decode cL_law 1282 = .ok (.iload 5, 2) := by decide +kernel
theorem dL_law_1284 : decode cL_law 1284 = .ok (.iconst 1, 1) := by decide +kernel
theorem dL_law_1285 : decode cL_law 1285 = .ok (.iadd, 1) := by decide +kernel
theorem dL_law_1286 : decode cL_law 1286 = .ok (.iaload, 1) := by decide +kernel
theorem dL_law_1287 : decode cL_law 1287 = .ok (.aload_n 0, 1) := by decide +kernel
theorem dL_law_1288 : decode cL_law 1288 = .ok (.iload 5, 2) := by decide +kernel
theorem dL_law_1290 : decode cL_law 1290 = .ok (.iconst 2, 1) := by decide +kernel
theorem dL_law_1291 : decode cL_law 1291 = .ok (.iadd, 1) := by decide +kernel
theorem dL_law_1292 : decode cL_law 1292 = .ok (.iaload, 1) := by decide +kernel
theorem dL_law_1293 : decode cL_law 1293 = .ok (.aload_n 0, 1) := by decide +kernel
theorem dL_law_1294 : decode cL_law 1294 = .ok (.iload 5, 2) := by decide +kernel
theorem dL_law_1296 : decode cL_law 1296 = .ok (.iconst 3, 1) := by decide +kernel
theorem dL_law_1297 : decode cL_law 1297 = .ok (.iadd, 1) := by decide +kernel
theorem dL_law_1298 : decode cL_law 1298 = .ok (.iaload, 1) := by decide +kernel
theorem dL_law_1299 : decode cL_law 1299 = .ok (.invokevirtual 219, 3) := by decide +kernel
theorem dL_law_1302 : decode cL_law 1302 = .ok (.istore 7, 2) := by decide +kernel
theorem dL_law_1304 : decode cL_law 1304 = .ok (.aload_n 2, 1) := by decide +kernel
theorem dL_law_1305 : decode cL_law 1305 = .ok (.invokevirtual 167, 3) := by decide +kernel
theorem dL_law_1308 : decode cL_law 1308 = .ok (.iload 6, 2) := by decide +kernel
theorem dL_law_1310 : decode cL_law 1310 = .ok (.if_icmp .eq 5, 3) := by decide +kernel
theorem dL_law_1313 : decode cL_law 1313 = .ok (.iconst 0, 1) := by decide +kernel
theorem dL_law_1314 : decode cL_law 1314 = .ok (.ireturn, 1) := by decide +kernel
theorem dL_law_1315 : decode cL_law 1315 = .ok (.iload 6, 2) := by decide +kernel
theorem dL_law_1317 : decode cL_law 1317 = .ok (.ifCond .ne 15, 3) := by decide +kernel
theorem dL_law_1320 : decode cL_law 1320 = .ok (.aload_n 3, 1) := by decide +kernel
theorem dL_law_1321 : decode cL_law 1321 = .ok (.iconst 0, 1) := by decide +kernel
theorem dL_law_1322 : decode cL_law 1322 = .ok (.laload, 1) := by decide +kernel
theorem dL_law_1323 : decode cL_law 1323 = .ok (.iload 7, 2) := by decide +kernel
theorem dL_law_1325 : decode cL_law 1325 = .ok (.i2l, 1) := by decide +kernel
theorem dL_law_1326 : decode cL_law 1326 = .ok (.lcmp, 1) := by decide +kernel
theorem dL_law_1327 : decode cL_law 1327 = .ok (.ifCond .eq 5, 3) := by decide +kernel
theorem dL_law_1330 : decode cL_law 1330 = .ok (.iconst 0, 1) := by decide +kernel
theorem dL_law_1331 : decode cL_law 1331 = .ok (.ireturn, 1) := by decide +kernel
theorem dL_law_1332 : decode cL_law 1332 = .ok (.goto 1765, 3) := by decide +kernel
theorem dL_law_1335 : decode cL_law 1335 = .ok (.aload_n 1, 1) := by decide +kernel
theorem dL_law_1336 : decode cL_law 1336 = .ok (.aload_n 0, 1) := by decide +kernel
theorem dL_law_1337 : decode cL_law 1337 = .ok (.iload 5, 2) := by decide +kernel
theorem dL_law_1339 : decode cL_law 1339 = .ok (.iconst 1, 1) := by decide +kernel
theorem dL_law_1340 : decode cL_law 1340 = .ok (.iadd, 1) := by decide +kernel
theorem dL_law_1341 : decode cL_law 1341 = .ok (.iaload, 1) := by decide +kernel
theorem dL_law_1342 : decode cL_law 1342 = .ok (.aload_n 0, 1) := by decide +kernel
theorem dL_law_1343 : decode cL_law 1343 = .ok (.iload 5, 2) := by decide +kernel
theorem dL_law_1345 : decode cL_law 1345 = .ok (.iconst 2, 1) := by decide +kernel
theorem dL_law_1346 : decode cL_law 1346 = .ok (.iadd, 1) := by decide +kernel
theorem dL_law_1347 : decode cL_law 1347 = .ok (.iaload, 1) := by decide +kernel
theorem dL_law_1348 : decode cL_law 1348 = .ok (.aload_n 0, 1) := by decide +kernel
theorem dL_law_1349 : decode cL_law 1349 = .ok (.iload 5, 2) := by decide +kernel
theorem dL_law_1351 : decode cL_law 1351 = .ok (.iconst 3, 1) := by decide +kernel
theorem dL_law_1352 : decode cL_law 1352 = .ok (.iadd, 1) := by decide +kernel
theorem dL_law_1353 : decode cL_law 1353 = .ok (.iaload, 1) := by decide +kernel
theorem dL_law_1354 : decode cL_law 1354 = .ok (.aload_n 3, 1) := by decide +kernel
theorem dL_law_1355 : decode cL_law 1355 = .ok (.invokestatic 220, 3) := by decide +kernel
theorem dL_law_1358 : decode cL_law 1358 = .ok (.istore 6, 2) := by decide +kernel
theorem dL_law_1360 : decode cL_law 1360 = .ok (.aload_n 2, 1) := by decide +kernel
theorem dL_law_1361 : decode cL_law 1361 = .ok (.aload_n 0, 1) := by decide +kernel
theorem dL_law_1362 : decode cL_law 1362 = .ok (.iload 5, 2) := by decide +kernel
theorem dL_law_1364 : decode cL_law 1364 = .ok (.iconst 1, 1) := by decide +kernel
theorem dL_law_1365 : decode cL_law 1365 = .ok (.iadd, 1) := by decide +kernel
theorem dL_law_1366 : decode cL_law 1366 = .ok (.iaload, 1) := by decide +kernel
theorem dL_law_1367 : decode cL_law 1367 = .ok (.aload_n 0, 1) := by decide +kernel
theorem dL_law_1368 : decode cL_law 1368 = .ok (.iload 5, 2) := by decide +kernel
theorem dL_law_1370 : decode cL_law 1370 = .ok (.iconst 2, 1) := by decide +kernel
theorem dL_law_1371 : decode cL_law 1371 = .ok (.iadd, 1) := by decide +kernel
theorem dL_law_1372 : decode cL_law 1372 = .ok (.iaload, 1) := by decide +kernel
theorem dL_law_1373 : decode cL_law 1373 = .ok (.aload_n 0, 1) := by decide +kernel
theorem dL_law_1374 : decode cL_law 1374 = .ok (.iload 5, 2) := by decide +kernel
theorem dL_law_1376 : decode cL_law 1376 = .ok (.iconst 3, 1) := by decide +kernel
theorem dL_law_1377 : decode cL_law 1377 = .ok (.iadd, 1) := by decide +kernel
theorem dL_law_1378 : decode cL_law 1378 = .ok (.iaload, 1) := by decide +kernel
theorem dL_law_1379 : decode cL_law 1379 = .ok (.invokevirtual 222, 3) := by decide +kernel
theorem dL_law_1382 : decode cL_law 1382 = .ok (.istore 7, 2) := by decide +kernel
theorem dL_law_1384 : decode cL_law 1384 = .ok (.aload_n 2, 1) := by decide +kernel
theorem dL_law_1385 : decode cL_law 1385 = .ok (.invokevirtual 167, 3) := by decide +kernel
theorem dL_law_1388 : decode cL_law 1388 = .ok (.iload 6, 2) := by decide +kernel
theorem dL_law_1390 : decode cL_law 1390 = .ok (.if_icmp .eq 5, 3) := by decide +kernel
theorem dL_law_1393 : decode cL_law 1393 = .ok (.iconst 0, 1) := by decide +kernel
theorem dL_law_1394 : decode cL_law 1394 = .ok (.ireturn, 1) := by decide +kernel
theorem dL_law_1395 : decode cL_law 1395 = .ok (.iload 6, 2) := by decide +kernel
theorem dL_law_1397 : decode cL_law 1397 = .ok (.ifCond .ne 22, 3) := by decide +kernel
theorem dL_law_1400 : decode cL_law 1400 = .ok (.aload_n 3, 1) := by decide +kernel
theorem dL_law_1401 : decode cL_law 1401 = .ok (.iconst 0, 1) := by decide +kernel
theorem dL_law_1402 : decode cL_law 1402 = .ok (.laload, 1) := by decide +kernel
theorem dL_law_1403 : decode cL_law 1403 = .ok (.iload 7, 2) := by decide +kernel
theorem dL_law_1405 : decode cL_law 1405 = .ok (.ifCond .eq 7, 3) := by decide +kernel
theorem dL_law_1408 : decode cL_law 1408 = .ok (.lconst 1, 1) := by decide +kernel
theorem dL_law_1409 : decode cL_law 1409 = .ok (.goto 4, 3) := by decide +kernel
theorem dL_law_1412 : decode cL_law 1412 = .ok (.lconst 0, 1) := by decide +kernel
theorem dL_law_1413 : decode cL_law 1413 = .ok (.lcmp, 1) := by decide +kernel
theorem dL_law_1414 : decode cL_law 1414 = .ok (.ifCond .eq 5, 3) := by decide +kernel
theorem dL_law_1417 : decode cL_law 1417 = .ok (.iconst 0, 1) := by decide +kernel
theorem dL_law_1418 : decode cL_law 1418 = .ok (.ireturn, 1) := by decide +kernel
theorem dL_law_1419 : decode cL_law 1419 = .ok (.goto 1678, 3) := by decide +kernel
theorem dL_law_1422 : decode cL_law 1422 = .ok (.aload_n 1, 1) := by decide +kernel
theorem dL_law_1423 : decode cL_law 1423 = .ok (.aload_n 0, 1) := by decide +kernel
theorem dL_law_1424 : decode cL_law 1424 = .ok (.iload 5, 2) := by decide +kernel
theorem dL_law_1426 : decode cL_law 1426 = .ok (.iconst 1, 1) := by decide +kernel
theorem dL_law_1427 : decode cL_law 1427 = .ok (.iadd, 1) := by decide +kernel
theorem dL_law_1428 : decode cL_law 1428 = .ok (.iaload, 1) := by decide +kernel
theorem dL_law_1429 : decode cL_law 1429 = .ok (.aload_n 0, 1) := by decide +kernel
theorem dL_law_1430 : decode cL_law 1430 = .ok (.iload 5, 2) := by decide +kernel
theorem dL_law_1432 : decode cL_law 1432 = .ok (.iconst 2, 1) := by decide +kernel
theorem dL_law_1433 : decode cL_law 1433 = .ok (.iadd, 1) := by decide +kernel
theorem dL_law_1434 : decode cL_law 1434 = .ok (.iaload, 1) := by decide +kernel
theorem dL_law_1435 : decode cL_law 1435 = .ok (.aload_n 0, 1) := by decide +kernel
theorem dL_law_1436 : decode cL_law 1436 = .ok (.iload 5, 2) := by decide +kernel
theorem dL_law_1438 : decode cL_law 1438 = .ok (.iconst 3, 1) := by decide +kernel
theorem dL_law_1439 : decode cL_law 1439 = .ok (.iadd, 1) := by decide +kernel
theorem dL_law_1440 : decode cL_law 1440 = .ok (.iaload, 1) := by decide +kernel
theorem dL_law_1441 : decode cL_law 1441 = .ok (.aload_n 3, 1) := by decide +kernel
theorem dL_law_1442 : decode cL_law 1442 = .ok (.invokestatic 223, 3) := by decide +kernel
theorem dL_law_1445 : decode cL_law 1445 = .ok (.istore 6, 2) := by decide +kernel
theorem dL_law_1447 : decode cL_law 1447 = .ok (.aload_n 2, 1) := by decide +kernel
theorem dL_law_1448 : decode cL_law 1448 = .ok (.aload_n 0, 1) := by decide +kernel
theorem dL_law_1449 : decode cL_law 1449 = .ok (.iload 5, 2) := by decide +kernel
theorem dL_law_1451 : decode cL_law 1451 = .ok (.iconst 1, 1) := by decide +kernel
theorem dL_law_1452 : decode cL_law 1452 = .ok (.iadd, 1) := by decide +kernel
theorem dL_law_1453 : decode cL_law 1453 = .ok (.iaload, 1) := by decide +kernel
theorem dL_law_1454 : decode cL_law 1454 = .ok (.aload_n 0, 1) := by decide +kernel
theorem dL_law_1455 : decode cL_law 1455 = .ok (.iload 5, 2) := by decide +kernel
theorem dL_law_1457 : decode cL_law 1457 = .ok (.iconst 2, 1) := by decide +kernel
theorem dL_law_1458 : decode cL_law 1458 = .ok (.iadd, 1) := by decide +kernel
theorem dL_law_1459 : decode cL_law 1459 = .ok (.iaload, 1) := by decide +kernel
theorem dL_law_1460 : decode cL_law 1460 = .ok (.aload_n 0, 1) := by decide +kernel
theorem dL_law_1461 : decode cL_law 1461 = .ok (.iload 5, 2) := by decide +kernel
theorem dL_law_1463 : decode cL_law 1463 = .ok (.iconst 3, 1) := by decide +kernel
theorem dL_law_1464 : decode cL_law 1464 = .ok (.iadd, 1) := by decide +kernel
theorem dL_law_1465 : decode cL_law 1465 = .ok (.iaload, 1) := by decide +kernel
theorem dL_law_1466 : decode cL_law 1466 = .ok (.invokevirtual 225, 3) := by decide +kernel
theorem dL_law_1469 : decode cL_law 1469 = .ok (.istore 7, 2) := by decide +kernel
theorem dL_law_1471 : decode cL_law 1471 = .ok (.aload_n 2, 1) := by decide +kernel
theorem dL_law_1472 : decode cL_law 1472 = .ok (.invokevirtual 167, 3) := by decide +kernel
theorem dL_law_1475 : decode cL_law 1475 = .ok (.iload 6, 2) := by decide +kernel
theorem dL_law_1477 : decode cL_law 1477 = .ok (.if_icmp .eq 5, 3) := by decide +kernel
theorem dL_law_1480 : decode cL_law 1480 = .ok (.iconst 0, 1) := by decide +kernel
theorem dL_law_1481 : decode cL_law 1481 = .ok (.ireturn, 1) := by decide +kernel
theorem dL_law_1482 : decode cL_law 1482 = .ok (.iload 6, 2) := by decide +kernel
theorem dL_law_1484 : decode cL_law 1484 = .ok (.ifCond .ne 15, 3) := by decide +kernel
theorem dL_law_1487 : decode cL_law 1487 = .ok (.aload_n 3, 1) := by decide +kernel
theorem dL_law_1488 : decode cL_law 1488 = .ok (.iconst 0, 1) := by decide +kernel
theorem dL_law_1489 : decode cL_law 1489 = .ok (.laload, 1) := by decide +kernel
theorem dL_law_1490 : decode cL_law 1490 = .ok (.iload 7, 2) := by decide +kernel
theorem dL_law_1492 : decode cL_law 1492 = .ok (.i2l, 1) := by decide +kernel
theorem dL_law_1493 : decode cL_law 1493 = .ok (.lcmp, 1) := by decide +kernel
theorem dL_law_1494 : decode cL_law 1494 = .ok (.ifCond .eq 5, 3) := by decide +kernel
theorem dL_law_1497 : decode cL_law 1497 = .ok (.iconst 0, 1) := by decide +kernel
theorem dL_law_1498 : decode cL_law 1498 = .ok (.ireturn, 1) := by decide +kernel
theorem dL_law_1499 : decode cL_law 1499 = .ok (.goto 1598, 3) := by decide +kernel
theorem dL_law_1502 : decode cL_law 1502 = .ok (.aload_n 1, 1) := by decide +kernel
theorem dL_law_1503 : decode cL_law 1503 = .ok (.aload_n 0, 1) := by decide +kernel
theorem dL_law_1504 : decode cL_law 1504 = .ok (.iload 5, 2) := by decide +kernel
theorem dL_law_1506 : decode cL_law 1506 = .ok (.iconst 1, 1) := by decide +kernel
theorem dL_law_1507 : decode cL_law 1507 = .ok (.iadd, 1) := by decide +kernel
theorem dL_law_1508 : decode cL_law 1508 = .ok (.iaload, 1) := by decide +kernel
theorem dL_law_1509 : decode cL_law 1509 = .ok (.aload_n 0, 1) := by decide +kernel
theorem dL_law_1510 : decode cL_law 1510 = .ok (.iload 5, 2) := by decide +kernel
theorem dL_law_1512 : decode cL_law 1512 = .ok (.iconst 2, 1) := by decide +kernel
theorem dL_law_1513 : decode cL_law 1513 = .ok (.iadd, 1) := by decide +kernel
theorem dL_law_1514 : decode cL_law 1514 = .ok (.iaload, 1) := by decide +kernel
theorem dL_law_1515 : decode cL_law 1515 = .ok (.aload_n 0, 1) := by decide +kernel
theorem dL_law_1516 : decode cL_law 1516 = .ok (.iload 5, 2) := by decide +kernel
theorem dL_law_1518 : decode cL_law 1518 = .ok (.iconst 3, 1) := by decide +kernel
theorem dL_law_1519 : decode cL_law 1519 = .ok (.iadd, 1) := by decide +kernel
theorem dL_law_1520 : decode cL_law 1520 = .ok (.iaload, 1) := by decide +kernel
theorem dL_law_1521 : decode cL_law 1521 = .ok (.ifCond .eq 7, 3) := by decide +kernel
theorem dL_law_1524 : decode cL_law 1524 = .ok (.iconst 1, 1) := by decide +kernel
theorem dL_law_1525 : decode cL_law 1525 = .ok (.goto 4, 3) := by decide +kernel
theorem dL_law_1528 : decode cL_law 1528 = .ok (.iconst 0, 1) := by decide +kernel
theorem dL_law_1529 : decode cL_law 1529 = .ok (.aload_n 3, 1) := by decide +kernel
theorem dL_law_1530 : decode cL_law 1530 = .ok (.invokestatic 226, 3) := by decide +kernel
theorem dL_law_1533 : decode cL_law 1533 = .ok (.istore 6, 2) := by decide +kernel
theorem dL_law_1535 : decode cL_law 1535 = .ok (.aload_n 2, 1) := by decide +kernel
theorem dL_law_1536 : decode cL_law 1536 = .ok (.aload_n 0, 1) := by decide +kernel
theorem dL_law_1537 : decode cL_law 1537 = .ok (.iload 5, 2) := by decide +kernel
theorem dL_law_1539 : decode cL_law 1539 = .ok (.iconst 1, 1) := by decide +kernel
theorem dL_law_1540 : decode cL_law 1540 = .ok (.iadd, 1) := by decide +kernel
theorem dL_law_1541 : decode cL_law 1541 = .ok (.iaload, 1) := by decide +kernel
theorem dL_law_1542 : decode cL_law 1542 = .ok (.aload_n 0, 1) := by decide +kernel
theorem dL_law_1543 : decode cL_law 1543 = .ok (.iload 5, 2) := by decide +kernel
theorem dL_law_1545 : decode cL_law 1545 = .ok (.iconst 2, 1) := by decide +kernel
theorem dL_law_1546 : decode cL_law 1546 = .ok (.iadd, 1) := by decide +kernel
theorem dL_law_1547 : decode cL_law 1547 = .ok (.iaload, 1) := by decide +kernel
theorem dL_law_1548 : decode cL_law 1548 = .ok (.aload_n 0, 1) := by decide +kernel
theorem dL_law_1549 : decode cL_law 1549 = .ok (.iload 5, 2) := by decide +kernel
theorem dL_law_1551 : decode cL_law 1551 = .ok (.iconst 3, 1) := by decide +kernel
theorem dL_law_1552 : decode cL_law 1552 = .ok (.iadd, 1) := by decide +kernel
theorem dL_law_1553 : decode cL_law 1553 = .ok (.iaload, 1) := by decide +kernel
theorem dL_law_1554 : decode cL_law 1554 = .ok (.ifCond .eq 7, 3) := by decide +kernel
theorem dL_law_1557 : decode cL_law 1557 = .ok (.iconst 1, 1) := by decide +kernel
theorem dL_law_1558 : decode cL_law 1558 = .ok (.goto 4, 3) := by decide +kernel
theorem dL_law_1561 : decode cL_law 1561 = .ok (.iconst 0, 1) := by decide +kernel
theorem dL_law_1562 : decode cL_law 1562 = .ok (.invokevirtual 228, 3) := by decide +kernel
theorem dL_law_1565 : decode cL_law 1565 = .ok (.istore 7, 2) := by decide +kernel
theorem dL_law_1567 : decode cL_law 1567 = .ok (.aload_n 2, 1) := by decide +kernel
theorem dL_law_1568 : decode cL_law 1568 = .ok (.invokevirtual 167, 3) := by decide +kernel
theorem dL_law_1571 : decode cL_law 1571 = .ok (.iload 6, 2) := by decide +kernel
theorem dL_law_1573 : decode cL_law 1573 = .ok (.if_icmp .eq 5, 3) := by decide +kernel
theorem dL_law_1576 : decode cL_law 1576 = .ok (.iconst 0, 1) := by decide +kernel
theorem dL_law_1577 : decode cL_law 1577 = .ok (.ireturn, 1) := by decide +kernel
theorem dL_law_1578 : decode cL_law 1578 = .ok (.iload 6, 2) := by decide +kernel
theorem dL_law_1580 : decode cL_law 1580 = .ok (.ifCond .ne 15, 3) := by decide +kernel
theorem dL_law_1583 : decode cL_law 1583 = .ok (.aload_n 3, 1) := by decide +kernel
theorem dL_law_1584 : decode cL_law 1584 = .ok (.iconst 0, 1) := by decide +kernel
theorem dL_law_1585 : decode cL_law 1585 = .ok (.laload, 1) := by decide +kernel
theorem dL_law_1586 : decode cL_law 1586 = .ok (.iload 7, 2) := by decide +kernel
theorem dL_law_1588 : decode cL_law 1588 = .ok (.i2l, 1) := by decide +kernel
theorem dL_law_1589 : decode cL_law 1589 = .ok (.lcmp, 1) := by decide +kernel
theorem dL_law_1590 : decode cL_law 1590 = .ok (.ifCond .eq 5, 3) := by decide +kernel
theorem dL_law_1593 : decode cL_law 1593 = .ok (.iconst 0, 1) := by decide +kernel
theorem dL_law_1594 : decode cL_law 1594 = .ok (.ireturn, 1) := by decide +kernel
theorem dL_law_1595 : decode cL_law 1595 = .ok (.goto 1502, 3) := by decide +kernel
theorem dL_law_1598 : decode cL_law 1598 = .ok (.aload_n 1, 1) := by decide +kernel
theorem dL_law_1599 : decode cL_law 1599 = .ok (.aload_n 0, 1) := by decide +kernel
theorem dL_law_1600 : decode cL_law 1600 = .ok (.iload 5, 2) := by decide +kernel
theorem dL_law_1602 : decode cL_law 1602 = .ok (.iconst 1, 1) := by decide +kernel
theorem dL_law_1603 : decode cL_law 1603 = .ok (.iadd, 1) := by decide +kernel
theorem dL_law_1604 : decode cL_law 1604 = .ok (.iaload, 1) := by decide +kernel
theorem dL_law_1605 : decode cL_law 1605 = .ok (.aload_n 0, 1) := by decide +kernel
theorem dL_law_1606 : decode cL_law 1606 = .ok (.iload 5, 2) := by decide +kernel
theorem dL_law_1608 : decode cL_law 1608 = .ok (.iconst 2, 1) := by decide +kernel
theorem dL_law_1609 : decode cL_law 1609 = .ok (.iadd, 1) := by decide +kernel
theorem dL_law_1610 : decode cL_law 1610 = .ok (.iaload, 1) := by decide +kernel
theorem dL_law_1611 : decode cL_law 1611 = .ok (.aload_n 0, 1) := by decide +kernel
theorem dL_law_1612 : decode cL_law 1612 = .ok (.iload 5, 2) := by decide +kernel
theorem dL_law_1614 : decode cL_law 1614 = .ok (.iconst 3, 1) := by decide +kernel
theorem dL_law_1615 : decode cL_law 1615 = .ok (.iadd, 1) := by decide +kernel
theorem dL_law_1616 : decode cL_law 1616 = .ok (.iaload, 1) := by decide +kernel
theorem dL_law_1617 : decode cL_law 1617 = .ok (.aload_n 3, 1) := by decide +kernel
theorem dL_law_1618 : decode cL_law 1618 = .ok (.invokestatic 229, 3) := by decide +kernel
theorem dL_law_1621 : decode cL_law 1621 = .ok (.istore 6, 2) := by decide +kernel
theorem dL_law_1623 : decode cL_law 1623 = .ok (.aload_n 2, 1) := by decide +kernel
theorem dL_law_1624 : decode cL_law 1624 = .ok (.aload_n 0, 1) := by decide +kernel
theorem dL_law_1625 : decode cL_law 1625 = .ok (.iload 5, 2) := by decide +kernel
theorem dL_law_1627 : decode cL_law 1627 = .ok (.iconst 1, 1) := by decide +kernel
theorem dL_law_1628 : decode cL_law 1628 = .ok (.iadd, 1) := by decide +kernel
theorem dL_law_1629 : decode cL_law 1629 = .ok (.iaload, 1) := by decide +kernel
theorem dL_law_1630 : decode cL_law 1630 = .ok (.aload_n 0, 1) := by decide +kernel
theorem dL_law_1631 : decode cL_law 1631 = .ok (.iload 5, 2) := by decide +kernel
theorem dL_law_1633 : decode cL_law 1633 = .ok (.iconst 2, 1) := by decide +kernel
theorem dL_law_1634 : decode cL_law 1634 = .ok (.iadd, 1) := by decide +kernel
theorem dL_law_1635 : decode cL_law 1635 = .ok (.iaload, 1) := by decide +kernel
theorem dL_law_1636 : decode cL_law 1636 = .ok (.aload_n 0, 1) := by decide +kernel
theorem dL_law_1637 : decode cL_law 1637 = .ok (.iload 5, 2) := by decide +kernel
theorem dL_law_1639 : decode cL_law 1639 = .ok (.iconst 3, 1) := by decide +kernel
theorem dL_law_1640 : decode cL_law 1640 = .ok (.iadd, 1) := by decide +kernel
theorem dL_law_1641 : decode cL_law 1641 = .ok (.iaload, 1) := by decide +kernel
theorem dL_law_1642 : decode cL_law 1642 = .ok (.invokevirtual 231, 3) := by decide +kernel
theorem dL_law_1645 : decode cL_law 1645 = .ok (.istore 7, 2) := by decide +kernel
theorem dL_law_1647 : decode cL_law 1647 = .ok (.aload_n 2, 1) := by decide +kernel
theorem dL_law_1648 : decode cL_law 1648 = .ok (.invokevirtual 167, 3) := by decide +kernel
theorem dL_law_1651 : decode cL_law 1651 = .ok (.iload 6, 2) := by decide +kernel
theorem dL_law_1653 : decode cL_law 1653 = .ok (.if_icmp .eq 5, 3) := by decide +kernel
theorem dL_law_1656 : decode cL_law 1656 = .ok (.iconst 0, 1) := by decide +kernel
theorem dL_law_1657 : decode cL_law 1657 = .ok (.ireturn, 1) := by decide +kernel
theorem dL_law_1658 : decode cL_law 1658 = .ok (.iload 6, 2) := by decide +kernel
theorem dL_law_1660 : decode cL_law 1660 = .ok (.ifCond .ne 15, 3) := by decide +kernel
theorem dL_law_1663 : decode cL_law 1663 = .ok (.aload_n 3, 1) := by decide +kernel
theorem dL_law_1664 : decode cL_law 1664 = .ok (.iconst 0, 1) := by decide +kernel
theorem dL_law_1665 : decode cL_law 1665 = .ok (.laload, 1) := by decide +kernel
theorem dL_law_1666 : decode cL_law 1666 = .ok (.iload 7, 2) := by decide +kernel
theorem dL_law_1668 : decode cL_law 1668 = .ok (.i2l, 1) := by decide +kernel
theorem dL_law_1669 : decode cL_law 1669 = .ok (.lcmp, 1) := by decide +kernel
theorem dL_law_1670 : decode cL_law 1670 = .ok (.ifCond .eq 5, 3) := by decide +kernel
theorem dL_law_1673 : decode cL_law 1673 = .ok (.iconst 0, 1) := by decide +kernel
theorem dL_law_1674 : decode cL_law 1674 = .ok (.ireturn, 1) := by decide +kernel
theorem dL_law_1675 : decode cL_law 1675 = .ok (.goto 1422, 3) := by decide +kernel
theorem dL_law_1678 : decode cL_law 1678 = .ok (.aload_n 1, 1) := by decide +kernel
theorem dL_law_1679 : decode cL_law 1679 = .ok (.aload_n 0, 1) := by decide +kernel
theorem dL_law_1680 : decode cL_law 1680 = .ok (.iload 5, 2) := by decide +kernel
theorem dL_law_1682 : decode cL_law 1682 = .ok (.iconst 1, 1) := by decide +kernel
theorem dL_law_1683 : decode cL_law 1683 = .ok (.iadd, 1) := by decide +kernel
theorem dL_law_1684 : decode cL_law 1684 = .ok (.iaload, 1) := by decide +kernel
theorem dL_law_1685 : decode cL_law 1685 = .ok (.aload_n 0, 1) := by decide +kernel
theorem dL_law_1686 : decode cL_law 1686 = .ok (.iload 5, 2) := by decide +kernel
theorem dL_law_1688 : decode cL_law 1688 = .ok (.iconst 2, 1) := by decide +kernel
theorem dL_law_1689 : decode cL_law 1689 = .ok (.iadd, 1) := by decide +kernel
theorem dL_law_1690 : decode cL_law 1690 = .ok (.iaload, 1) := by decide +kernel
theorem dL_law_1691 : decode cL_law 1691 = .ok (.aload_n 3, 1) := by decide +kernel
theorem dL_law_1692 : decode cL_law 1692 = .ok (.invokestatic 232, 3) := by decide +kernel
theorem dL_law_1695 : decode cL_law 1695 = .ok (.istore 6, 2) := by decide +kernel
theorem dL_law_1697 : decode cL_law 1697 = .ok (.aload_n 2, 1) := by decide +kernel
theorem dL_law_1698 : decode cL_law 1698 = .ok (.aload_n 0, 1) := by decide +kernel
theorem dL_law_1699 : decode cL_law 1699 = .ok (.iload 5, 2) := by decide +kernel
theorem dL_law_1701 : decode cL_law 1701 = .ok (.iconst 1, 1) := by decide +kernel
theorem dL_law_1702 : decode cL_law 1702 = .ok (.iadd, 1) := by decide +kernel
theorem dL_law_1703 : decode cL_law 1703 = .ok (.iaload, 1) := by decide +kernel
theorem dL_law_1704 : decode cL_law 1704 = .ok (.aload_n 0, 1) := by decide +kernel
theorem dL_law_1705 : decode cL_law 1705 = .ok (.iload 5, 2) := by decide +kernel
theorem dL_law_1707 : decode cL_law 1707 = .ok (.iconst 2, 1) := by decide +kernel
theorem dL_law_1708 : decode cL_law 1708 = .ok (.iadd, 1) := by decide +kernel
theorem dL_law_1709 : decode cL_law 1709 = .ok (.iaload, 1) := by decide +kernel
theorem dL_law_1710 : decode cL_law 1710 = .ok (.invokevirtual 234, 3) := by decide +kernel
theorem dL_law_1713 : decode cL_law 1713 = .ok (.istore 7, 2) := by decide +kernel
theorem dL_law_1715 : decode cL_law 1715 = .ok (.aload_n 2, 1) := by decide +kernel
theorem dL_law_1716 : decode cL_law 1716 = .ok (.invokevirtual 167, 3) := by decide +kernel
theorem dL_law_1719 : decode cL_law 1719 = .ok (.iload 6, 2) := by decide +kernel
theorem dL_law_1721 : decode cL_law 1721 = .ok (.if_icmp .eq 5, 3) := by decide +kernel
theorem dL_law_1724 : decode cL_law 1724 = .ok (.iconst 0, 1) := by decide +kernel
theorem dL_law_1725 : decode cL_law 1725 = .ok (.ireturn, 1) := by decide +kernel
theorem dL_law_1726 : decode cL_law 1726 = .ok (.iload 6, 2) := by decide +kernel
theorem dL_law_1728 : decode cL_law 1728 = .ok (.ifCond .ne 15, 3) := by decide +kernel
theorem dL_law_1731 : decode cL_law 1731 = .ok (.aload_n 3, 1) := by decide +kernel
theorem dL_law_1732 : decode cL_law 1732 = .ok (.iconst 0, 1) := by decide +kernel
theorem dL_law_1733 : decode cL_law 1733 = .ok (.laload, 1) := by decide +kernel
theorem dL_law_1734 : decode cL_law 1734 = .ok (.iload 7, 2) := by decide +kernel
theorem dL_law_1736 : decode cL_law 1736 = .ok (.i2l, 1) := by decide +kernel
theorem dL_law_1737 : decode cL_law 1737 = .ok (.lcmp, 1) := by decide +kernel
theorem dL_law_1738 : decode cL_law 1738 = .ok (.ifCond .eq 5, 3) := by decide +kernel
theorem dL_law_1741 : decode cL_law 1741 = .ok (.iconst 0, 1) := by decide +kernel
theorem dL_law_1742 : decode cL_law 1742 = .ok (.ireturn, 1) := by decide +kernel
theorem dL_law_1743 : decode cL_law 1743 = .ok (.goto 1354, 3) := by decide +kernel
theorem dL_law_1746 : decode cL_law 1746 = .ok (.aload_n 1, 1) := by decide +kernel
theorem dL_law_1747 : decode cL_law 1747 = .ok (.aload_n 0, 1) := by decide +kernel
theorem dL_law_1748 : decode cL_law 1748 = .ok (.iload 5, 2) := by decide +kernel
theorem dL_law_1750 : decode cL_law 1750 = .ok (.iconst 1, 1) := by decide +kernel
theorem dL_law_1751 : decode cL_law 1751 = .ok (.iadd, 1) := by decide +kernel
theorem dL_law_1752 : decode cL_law 1752 = .ok (.iaload, 1) := by decide +kernel
theorem dL_law_1753 : decode cL_law 1753 = .ok (.aload_n 0, 1) := by decide +kernel
theorem dL_law_1754 : decode cL_law 1754 = .ok (.iload 5, 2) := by decide +kernel
theorem dL_law_1756 : decode cL_law 1756 = .ok (.iconst 2, 1) := by decide +kernel
theorem dL_law_1757 : decode cL_law 1757 = .ok (.iadd, 1) := by decide +kernel
theorem dL_law_1758 : decode cL_law 1758 = .ok (.iaload, 1) := by decide +kernel
theorem dL_law_1759 : decode cL_law 1759 = .ok (.aload_n 3, 1) := by decide +kernel
theorem dL_law_1760 : decode cL_law 1760 = .ok (.invokestatic 235, 3) := by decide +kernel
theorem dL_law_1763 : decode cL_law 1763 = .ok (.istore 6, 2) := by decide +kernel
theorem dL_law_1765 : decode cL_law 1765 = .ok (.aload_n 2, 1) := by decide +kernel
theorem dL_law_1766 : decode cL_law 1766 = .ok (.aload_n 0, 1) := by decide +kernel
theorem dL_law_1767 : decode cL_law 1767 = .ok (.iload 5, 2) := by decide +kernel
theorem dL_law_1769 : decode cL_law 1769 = .ok (.iconst 1, 1) := by decide +kernel
theorem dL_law_1770 : decode cL_law 1770 = .ok (.iadd, 1) := by decide +kernel
theorem dL_law_1771 : decode cL_law 1771 = .ok (.iaload, 1) := by decide +kernel
theorem dL_law_1772 : decode cL_law 1772 = .ok (.aload_n 0, 1) := by decide +kernel
theorem dL_law_1773 : decode cL_law 1773 = .ok (.iload 5, 2) := by decide +kernel
theorem dL_law_1775 : decode cL_law 1775 = .ok (.iconst 2, 1) := by decide +kernel
theorem dL_law_1776 : decode cL_law 1776 = .ok (.iadd, 1) := by decide +kernel
theorem dL_law_1777 : decode cL_law 1777 = .ok (.iaload, 1) := by decide +kernel
theorem dL_law_1778 : decode cL_law 1778 = .ok (.invokevirtual 237, 3) := by decide +kernel
theorem dL_law_1781 : decode cL_law 1781 = .ok (.istore 7, 2) := by decide +kernel
theorem dL_law_1783 : decode cL_law 1783 = .ok (.aload_n 2, 1) := by decide +kernel
theorem dL_law_1784 : decode cL_law 1784 = .ok (.invokevirtual 167, 3) := by decide +kernel
theorem dL_law_1787 : decode cL_law 1787 = .ok (.iload 6, 2) := by decide +kernel
theorem dL_law_1789 : decode cL_law 1789 = .ok (.if_icmp .eq 5, 3) := by decide +kernel
theorem dL_law_1792 : decode cL_law 1792 = .ok (.iconst 0, 1) := by decide +kernel
theorem dL_law_1793 : decode cL_law 1793 = .ok (.ireturn, 1) := by decide +kernel
theorem dL_law_1794 : decode cL_law 1794 = .ok (.iload 6, 2) := by decide +kernel
theorem dL_law_1796 : decode cL_law 1796 = .ok (.ifCond .ne 15, 3) := by decide +kernel
theorem dL_law_1799 : decode cL_law 1799 = .ok (.aload_n 3, 1) := by decide +kernel
theorem dL_law_1800 : decode cL_law 1800 = .ok (.iconst 0, 1) := by decide +kernel
theorem dL_law_1801 : decode cL_law 1801 = .ok (.laload, 1) := by decide +kernel
theorem dL_law_1802 : decode cL_law 1802 = .ok (.iload 7, 2) := by decide +kernel
theorem dL_law_1804 : decode cL_law 1804 = .ok (.i2l, 1) := by decide +kernel
theorem dL_law_1805 : decode cL_law 1805 = .ok (.lcmp, 1) := by decide +kernel
theorem dL_law_1806 : decode cL_law 1806 = .ok (.ifCond .eq 5, 3) := by decide +kernel
theorem dL_law_1809 : decode cL_law 1809 = .ok (.iconst 0, 1) := by decide +kernel
theorem dL_law_1810 : decode cL_law 1810 = .ok (.ireturn, 1) := by decide +kernel
theorem dL_law_1811 : decode cL_law 1811 = .ok (.goto 1286, 3) := by decide +kernel
theorem dL_law_1814 : decode cL_law 1814 = .ok (.aload_n 1, 1) := by decide +kernel
theorem dL_law_1815 : decode cL_law 1815 = .ok (.aload_n 0, 1) := by decide +kernel
theorem dL_law_1816 : decode cL_law 1816 = .ok (.iload 5, 2) := by decide +kernel
theorem dL_law_1818 : decode cL_law 1818 = .ok (.iconst 1, 1) := by decide +kernel
theorem dL_law_1819 : decode cL_law 1819 = .ok (.iadd, 1) := by decide +kernel
theorem dL_law_1820 : decode cL_law 1820 = .ok (.iaload, 1) := by decide +kernel
theorem dL_law_1821 : decode cL_law 1821 = .ok (.aload_n 0, 1) := by decide +kernel
theorem dL_law_1822 : decode cL_law 1822 = .ok (.iload 5, 2) := by decide +kernel
theorem dL_law_1824 : decode cL_law 1824 = .ok (.iconst 2, 1) := by decide +kernel
theorem dL_law_1825 : decode cL_law 1825 = .ok (.iadd, 1) := by decide +kernel
theorem dL_law_1826 : decode cL_law 1826 = .ok (.iaload, 1) := by decide +kernel
theorem dL_law_1827 : decode cL_law 1827 = .ok (.aload_n 3, 1) := by decide +kernel
theorem dL_law_1828 : decode cL_law 1828 = .ok (.invokestatic 238, 3) := by decide +kernel
theorem dL_law_1831 : decode cL_law 1831 = .ok (.istore 6, 2) := by decide +kernel
theorem dL_law_1833 : decode cL_law 1833 = .ok (.aload_n 2, 1) := by decide +kernel
theorem dL_law_1834 : decode cL_law 1834 = .ok (.aload_n 0, 1) := by decide +kernel
theorem dL_law_1835 : decode cL_law 1835 = .ok (.iload 5, 2) := by decide +kernel
theorem dL_law_1837 : decode cL_law 1837 = .ok (.iconst 1, 1) := by decide +kernel
theorem dL_law_1838 : decode cL_law 1838 = .ok (.iadd, 1) := by decide +kernel
theorem dL_law_1839 : decode cL_law 1839 = .ok (.iaload, 1) := by decide +kernel
theorem dL_law_1840 : decode cL_law 1840 = .ok (.aload_n 0, 1) := by decide +kernel
theorem dL_law_1841 : decode cL_law 1841 = .ok (.iload 5, 2) := by decide +kernel
theorem dL_law_1843 : decode cL_law 1843 = .ok (.iconst 2, 1) := by decide +kernel
theorem dL_law_1844 : decode cL_law 1844 = .ok (.iadd, 1) := by decide +kernel
theorem dL_law_1845 : decode cL_law 1845 = .ok (.iaload, 1) := by decide +kernel
theorem dL_law_1846 : decode cL_law 1846 = .ok (.invokevirtual 240, 3) := by decide +kernel
theorem dL_law_1849 : decode cL_law 1849 = .ok (.istore 7, 2) := by decide +kernel
theorem dL_law_1851 : decode cL_law 1851 = .ok (.aload_n 2, 1) := by decide +kernel
theorem dL_law_1852 : decode cL_law 1852 = .ok (.invokevirtual 167, 3) := by decide +kernel
theorem dL_law_1855 : decode cL_law 1855 = .ok (.iload 6, 2) := by decide +kernel
theorem dL_law_1857 : decode cL_law 1857 = .ok (.if_icmp .eq 5, 3) := by decide +kernel
theorem dL_law_1860 : decode cL_law 1860 = .ok (.iconst 0, 1) := by decide +kernel
theorem dL_law_1861 : decode cL_law 1861 = .ok (.ireturn, 1) := by decide +kernel
theorem dL_law_1862 : decode cL_law 1862 = .ok (.iload 6, 2) := by decide +kernel
theorem dL_law_1864 : decode cL_law 1864 = .ok (.ifCond .ne 15, 3) := by decide +kernel
theorem dL_law_1867 : decode cL_law 1867 = .ok (.aload_n 3, 1) := by decide +kernel
theorem dL_law_1868 : decode cL_law 1868 = .ok (.iconst 0, 1) := by decide +kernel
theorem dL_law_1869 : decode cL_law 1869 = .ok (.laload, 1) := by decide +kernel
theorem dL_law_1870 : decode cL_law 1870 = .ok (.iload 7, 2) := by decide +kernel
theorem dL_law_1872 : decode cL_law 1872 = .ok (.i2l, 1) := by decide +kernel
theorem dL_law_1873 : decode cL_law 1873 = .ok (.lcmp, 1) := by decide +kernel
theorem dL_law_1874 : decode cL_law 1874 = .ok (.ifCond .eq 5, 3) := by decide +kernel
theorem dL_law_1877 : decode cL_law 1877 = .ok (.iconst 0, 1) := by decide +kernel
theorem dL_law_1878 : decode cL_law 1878 = .ok (.ireturn, 1) := by decide +kernel
theorem dL_law_1879 : decode cL_law 1879 = .ok (.goto 1218, 3) := by decide +kernel
theorem dL_law_1882 : decode cL_law 1882 = .ok (.aload_n 1, 1) := by decide +kernel
theorem dL_law_1883 : decode cL_law 1883 = .ok (.aload_n 0, 1) := by decide +kernel
theorem dL_law_1884 : decode cL_law 1884 = .ok (.iload 5, 2) := by decide +kernel
theorem dL_law_1886 : decode cL_law 1886 = .ok (.iconst 1, 1) := by decide +kernel
theorem dL_law_1887 : decode cL_law 1887 = .ok (.iadd, 1) := by decide +kernel
theorem dL_law_1888 : decode cL_law 1888 = .ok (.iaload, 1) := by decide +kernel
theorem dL_law_1889 : decode cL_law 1889 = .ok (.aload_n 3, 1) := by decide +kernel
theorem dL_law_1890 : decode cL_law 1890 = .ok (.invokestatic 241, 3) := by decide +kernel
theorem dL_law_1893 : decode cL_law 1893 = .ok (.istore 6, 2) := by decide +kernel
theorem dL_law_1895 : decode cL_law 1895 = .ok (.aload_n 2, 1) := by decide +kernel
theorem dL_law_1896 : decode cL_law 1896 = .ok (.aload_n 0, 1) := by decide +kernel
theorem dL_law_1897 : decode cL_law 1897 = .ok (.iload 5, 2) := by decide +kernel
theorem dL_law_1899 : decode cL_law 1899 = .ok (.iconst 1, 1) := by decide +kernel
theorem dL_law_1900 : decode cL_law 1900 = .ok (.iadd, 1) := by decide +kernel
theorem dL_law_1901 : decode cL_law 1901 = .ok (.iaload, 1) := by decide +kernel
theorem dL_law_1902 : decode cL_law 1902 = .ok (.invokevirtual 243, 3) := by decide +kernel
theorem dL_law_1905 : decode cL_law 1905 = .ok (.istore 7, 2) := by decide +kernel
theorem dL_law_1907 : decode cL_law 1907 = .ok (.aload_n 2, 1) := by decide +kernel
theorem dL_law_1908 : decode cL_law 1908 = .ok (.invokevirtual 167, 3) := by decide +kernel
theorem dL_law_1911 : decode cL_law 1911 = .ok (.iload 6, 2) := by decide +kernel
theorem dL_law_1913 : decode cL_law 1913 = .ok (.if_icmp .eq 5, 3) := by decide +kernel
theorem dL_law_1916 : decode cL_law 1916 = .ok (.iconst 0, 1) := by decide +kernel
theorem dL_law_1917 : decode cL_law 1917 = .ok (.ireturn, 1) := by decide +kernel
theorem dL_law_1918 : decode cL_law 1918 = .ok (.iload 6, 2) := by decide +kernel
theorem dL_law_1920 : decode cL_law 1920 = .ok (.ifCond .ne 15, 3) := by decide +kernel
theorem dL_law_1923 : decode cL_law 1923 = .ok (.aload_n 3, 1) := by decide +kernel
theorem dL_law_1924 : decode cL_law 1924 = .ok (.iconst 0, 1) := by decide +kernel
theorem dL_law_1925 : decode cL_law 1925 = .ok (.laload, 1) := by decide +kernel
theorem dL_law_1926 : decode cL_law 1926 = .ok (.iload 7, 2) := by decide +kernel
theorem dL_law_1928 : decode cL_law 1928 = .ok (.i2l, 1) := by decide +kernel
theorem dL_law_1929 : decode cL_law 1929 = .ok (.lcmp, 1) := by decide +kernel
theorem dL_law_1930 : decode cL_law 1930 = .ok (.ifCond .eq 5, 3) := by decide +kernel
theorem dL_law_1933 : decode cL_law 1933 = .ok (.iconst 0, 1) := by decide +kernel
theorem dL_law_1934 : decode cL_law 1934 = .ok (.ireturn, 1) := by decide +kernel
theorem dL_law_1935 : decode cL_law 1935 = .ok (.goto 1162, 3) := by decide +kernel
theorem dL_law_1938 : decode cL_law 1938 = .ok (.aload_n 1, 1) := by decide +kernel
theorem dL_law_1939 : decode cL_law 1939 = .ok (.aload_n 0, 1) := by decide +kernel
theorem dL_law_1940 : decode cL_law 1940 = .ok (.iload 5, 2) := by decide +kernel
theorem dL_law_1942 : decode cL_law 1942 = .ok (.iconst 1, 1) := by decide +kernel
theorem dL_law_1943 : decode cL_law 1943 = .ok (.iadd, 1) := by decide +kernel
theorem dL_law_1944 : decode cL_law 1944 = .ok (.iaload, 1) := by decide +kernel
theorem dL_law_1945 : decode cL_law 1945 = .ok (.aload_n 3, 1) := by decide +kernel
theorem dL_law_1946 : decode cL_law 1946 = .ok (.invokestatic 244, 3) := by decide +kernel
theorem dL_law_1949 : decode cL_law 1949 = .ok (.istore 6, 2) := by decide +kernel
theorem dL_law_1951 : decode cL_law 1951 = .ok (.aload_n 2, 1) := by decide +kernel
theorem dL_law_1952 : decode cL_law 1952 = .ok (.aload_n 0, 1) := by decide +kernel
theorem dL_law_1953 : decode cL_law 1953 = .ok (.iload 5, 2) := by decide +kernel
theorem dL_law_1955 : decode cL_law 1955 = .ok (.iconst 1, 1) := by decide +kernel
theorem dL_law_1956 : decode cL_law 1956 = .ok (.iadd, 1) := by decide +kernel
theorem dL_law_1957 : decode cL_law 1957 = .ok (.iaload, 1) := by decide +kernel
theorem dL_law_1958 : decode cL_law 1958 = .ok (.invokevirtual 246, 3) := by decide +kernel
theorem dL_law_1961 : decode cL_law 1961 = .ok (.istore 7, 2) := by decide +kernel
theorem dL_law_1963 : decode cL_law 1963 = .ok (.aload_n 2, 1) := by decide +kernel
theorem dL_law_1964 : decode cL_law 1964 = .ok (.invokevirtual 167, 3) := by decide +kernel
theorem dL_law_1967 : decode cL_law 1967 = .ok (.iload 6, 2) := by decide +kernel
theorem dL_law_1969 : decode cL_law 1969 = .ok (.if_icmp .eq 5, 3) := by decide +kernel
theorem dL_law_1972 : decode cL_law 1972 = .ok (.iconst 0, 1) := by decide +kernel
theorem dL_law_1973 : decode cL_law 1973 = .ok (.ireturn, 1) := by decide +kernel
theorem dL_law_1974 : decode cL_law 1974 = .ok (.iload 6, 2) := by decide +kernel
theorem dL_law_1976 : decode cL_law 1976 = .ok (.ifCond .ne 15, 3) := by decide +kernel
theorem dL_law_1979 : decode cL_law 1979 = .ok (.aload_n 3, 1) := by decide +kernel
theorem dL_law_1980 : decode cL_law 1980 = .ok (.iconst 0, 1) := by decide +kernel
theorem dL_law_1981 : decode cL_law 1981 = .ok (.laload, 1) := by decide +kernel
theorem dL_law_1982 : decode cL_law 1982 = .ok (.iload 7, 2) := by decide +kernel
theorem dL_law_1984 : decode cL_law 1984 = .ok (.i2l, 1) := by decide +kernel
theorem dL_law_1985 : decode cL_law 1985 = .ok (.lcmp, 1) := by decide +kernel
theorem dL_law_1986 : decode cL_law 1986 = .ok (.ifCond .eq 5, 3) := by decide +kernel
theorem dL_law_1989 : decode cL_law 1989 = .ok (.iconst 0, 1) := by decide +kernel
theorem dL_law_1990 : decode cL_law 1990 = .ok (.ireturn, 1) := by decide +kernel
theorem dL_law_1991 : decode cL_law 1991 = .ok (.goto 1106, 3) := by decide +kernel
theorem dL_law_1994 : decode cL_law 1994 = .ok (.aload_n 1, 1) := by decide +kernel
theorem dL_law_1995 : decode cL_law 1995 = .ok (.aload_n 0, 1) := by decide +kernel
theorem dL_law_1996 : decode cL_law 1996 = .ok (.iload 5, 2) := by decide +kernel
theorem dL_law_1998 : decode cL_law 1998 = .ok (.iconst 1, 1) := by decide +kernel
theorem dL_law_1999 : decode cL_law 1999 = .ok (.iadd, 1) := by decide +kernel
theorem dL_law_2000 : decode cL_law 2000 = .ok (.iaload, 1) := by decide +kernel
theorem dL_law_2001 : decode cL_law 2001 = .ok (.aload_n 3, 1) := by decide +kernel
theorem dL_law_2002 : decode cL_law 2002 = .ok (.invokestatic 247, 3) := by decide +kernel
theorem dL_law_2005 : decode cL_law 2005 = .ok (.istore 6, 2) := by decide +kernel
theorem dL_law_2007 : decode cL_law 2007 = .ok (.aload_n 2, 1) := by decide +kernel
theorem dL_law_2008 : decode cL_law 2008 = .ok (.aload_n 0, 1) := by decide +kernel
theorem dL_law_2009 : decode cL_law 2009 = .ok (.iload 5, 2) := by decide +kernel
theorem dL_law_2011 : decode cL_law 2011 = .ok (.iconst 1, 1) := by decide +kernel
theorem dL_law_2012 : decode cL_law 2012 = .ok (.iadd, 1) := by decide +kernel
theorem dL_law_2013 : decode cL_law 2013 = .ok (.iaload, 1) := by decide +kernel
theorem dL_law_2014 : decode cL_law 2014 = .ok (.invokevirtual 249, 3) := by decide +kernel
theorem dL_law_2017 : decode cL_law 2017 = .ok (.istore 7, 2) := by decide +kernel
theorem dL_law_2019 : decode cL_law 2019 = .ok (.aload_n 2, 1) := by decide +kernel
theorem dL_law_2020 : decode cL_law 2020 = .ok (.invokevirtual 167, 3) := by decide +kernel
theorem dL_law_2023 : decode cL_law 2023 = .ok (.iload 6, 2) := by decide +kernel
theorem dL_law_2025 : decode cL_law 2025 = .ok (.if_icmp .eq 5, 3) := by decide +kernel
theorem dL_law_2028 : decode cL_law 2028 = .ok (.iconst 0, 1) := by decide +kernel
theorem dL_law_2029 : decode cL_law 2029 = .ok (.ireturn, 1) := by decide +kernel
theorem dL_law_2030 : decode cL_law 2030 = .ok (.iload 6, 2) := by decide +kernel
theorem dL_law_2032 : decode cL_law 2032 = .ok (.ifCond .ne 15, 3) := by decide +kernel
theorem dL_law_2035 : decode cL_law 2035 = .ok (.aload_n 3, 1) := by decide +kernel
theorem dL_law_2036 : decode cL_law 2036 = .ok (.iconst 0, 1) := by decide +kernel
theorem dL_law_2037 : decode cL_law 2037 = .ok (.laload, 1) := by decide +kernel
theorem dL_law_2038 : decode cL_law 2038 = .ok (.iload 7, 2) := by decide +kernel
theorem dL_law_2040 : decode cL_law 2040 = .ok (.i2l, 1) := by decide +kernel
theorem dL_law_2041 : decode cL_law 2041 = .ok (.lcmp, 1) := by decide +kernel
theorem dL_law_2042 : decode cL_law 2042 = .ok (.ifCond .eq 5, 3) := by decide +kernel
theorem dL_law_2045 : decode cL_law 2045 = .ok (.iconst 0, 1) := by decide +kernel
theorem dL_law_2046 : decode cL_law 2046 = .ok (.ireturn, 1) := by decide +kernel
theorem dL_law_2047 : decode cL_law 2047 = .ok (.goto 1050, 3) := by decide +kernel
theorem dL_law_2050 : decode cL_law 2050 = .ok (.aload_n 1, 1) := by decide +kernel
theorem dL_law_2051 : decode cL_law 2051 = .ok (.aload_n 0, 1) := by decide +kernel
theorem dL_law_2052 : decode cL_law 2052 = .ok (.iload 5, 2) := by decide +kernel
theorem dL_law_2054 : decode cL_law 2054 = .ok (.iconst 1, 1) := by decide +kernel
theorem dL_law_2055 : decode cL_law 2055 = .ok (.iadd, 1) := by decide +kernel
theorem dL_law_2056 : decode cL_law 2056 = .ok (.iaload, 1) := by decide +kernel
theorem dL_law_2057 : decode cL_law 2057 = .ok (.aload_n 0, 1) := by decide +kernel
theorem dL_law_2058 : decode cL_law 2058 = .ok (.iload 5, 2) := by decide +kernel
theorem dL_law_2060 : decode cL_law 2060 = .ok (.iconst 2, 1) := by decide +kernel
theorem dL_law_2061 : decode cL_law 2061 = .ok (.iadd, 1) := by decide +kernel
theorem dL_law_2062 : decode cL_law 2062 = .ok (.iaload, 1) := by decide +kernel
theorem dL_law_2063 : decode cL_law 2063 = .ok (.ifCond .eq 7, 3) := by decide +kernel
theorem dL_law_2066 : decode cL_law 2066 = .ok (.iconst 1, 1) := by decide +kernel
theorem dL_law_2067 : decode cL_law 2067 = .ok (.goto 4, 3) := by decide +kernel
theorem dL_law_2070 : decode cL_law 2070 = .ok (.iconst 0, 1) := by decide +kernel
theorem dL_law_2071 : decode cL_law 2071 = .ok (.aload_n 0, 1) := by decide +kernel
theorem dL_law_2072 : decode cL_law 2072 = .ok (.iload 5, 2) := by decide +kernel
theorem dL_law_2074 : decode cL_law 2074 = .ok (.iconst 3, 1) := by decide +kernel
theorem dL_law_2075 : decode cL_law 2075 = .ok (.iadd, 1) := by decide +kernel
theorem dL_law_2076 : decode cL_law 2076 = .ok (.iaload, 1) := by decide +kernel
theorem dL_law_2077 : decode cL_law 2077 = .ok (.aload_n 0, 1) := by decide +kernel
theorem dL_law_2078 : decode cL_law 2078 = .ok (.iload 5, 2) := by decide +kernel
theorem dL_law_2080 : decode cL_law 2080 = .ok (.iconst 4, 1) := by decide +kernel
theorem dL_law_2081 : decode cL_law 2081 = .ok (.iadd, 1) := by decide +kernel
theorem dL_law_2082 : decode cL_law 2082 = .ok (.iaload, 1) := by decide +kernel
theorem dL_law_2083 : decode cL_law 2083 = .ok (.ifCond .eq 7, 3) := by decide +kernel
theorem dL_law_2086 : decode cL_law 2086 = .ok (.iconst 1, 1) := by decide +kernel
theorem dL_law_2087 : decode cL_law 2087 = .ok (.goto 4, 3) := by decide +kernel
theorem dL_law_2090 : decode cL_law 2090 = .ok (.iconst 0, 1) := by decide +kernel
theorem dL_law_2091 : decode cL_law 2091 = .ok (.aload_n 3, 1) := by decide +kernel
theorem dL_law_2092 : decode cL_law 2092 = .ok (.invokestatic 250, 3) := by decide +kernel
theorem dL_law_2095 : decode cL_law 2095 = .ok (.istore 6, 2) := by decide +kernel
theorem dL_law_2097 : decode cL_law 2097 = .ok (.aload_n 2, 1) := by decide +kernel
theorem dL_law_2098 : decode cL_law 2098 = .ok (.aload_n 0, 1) := by decide +kernel
theorem dL_law_2099 : decode cL_law 2099 = .ok (.iload 5, 2) := by decide +kernel
theorem dL_law_2101 : decode cL_law 2101 = .ok (.iconst 1, 1) := by decide +kernel
theorem dL_law_2102 : decode cL_law 2102 = .ok (.iadd, 1) := by decide +kernel
theorem dL_law_2103 : decode cL_law 2103 = .ok (.iaload, 1) := by decide +kernel
theorem dL_law_2104 : decode cL_law 2104 = .ok (.aload_n 0, 1) := by decide +kernel
theorem dL_law_2105 : decode cL_law 2105 = .ok (.iload 5, 2) := by decide +kernel
theorem dL_law_2107 : decode cL_law 2107 = .ok (.iconst 2, 1) := by decide +kernel
theorem dL_law_2108 : decode cL_law 2108 = .ok (.iadd, 1) := by decide +kernel
theorem dL_law_2109 : decode cL_law 2109 = .ok (.iaload, 1) := by decide +kernel
theorem dL_law_2110 : decode cL_law 2110 = .ok (.ifCond .eq 7, 3) := by decide +kernel
theorem dL_law_2113 : decode cL_law 2113 = .ok (.iconst 1, 1) := by decide +kernel
theorem dL_law_2114 : decode cL_law 2114 = .ok (.goto 4, 3) := by decide +kernel
theorem dL_law_2117 : decode cL_law 2117 = .ok (.iconst 0, 1) := by decide +kernel
theorem dL_law_2118 : decode cL_law 2118 = .ok (.aload_n 0, 1) := by decide +kernel
theorem dL_law_2119 : decode cL_law 2119 = .ok (.iload 5, 2) := by decide +kernel
theorem dL_law_2121 : decode cL_law 2121 = .ok (.iconst 3, 1) := by decide +kernel
theorem dL_law_2122 : decode cL_law 2122 = .ok (.iadd, 1) := by decide +kernel
theorem dL_law_2123 : decode cL_law 2123 = .ok (.iaload, 1) := by decide +kernel
theorem dL_law_2124 : decode cL_law 2124 = .ok (.aload_n 0, 1) := by decide +kernel
theorem dL_law_2125 : decode cL_law 2125 = .ok (.iload 5, 2) := by decide +kernel
theorem dL_law_2127 : decode cL_law 2127 = .ok (.iconst 4, 1) := by decide +kernel
theorem dL_law_2128 : decode cL_law 2128 = .ok (.iadd, 1) := by decide +kernel
theorem dL_law_2129 : decode cL_law 2129 = .ok (.iaload, 1) := by decide +kernel
theorem dL_law_2130 : decode cL_law 2130 = .ok (.ifCond .eq 7, 3) := by decide +kernel
theorem dL_law_2133 : decode cL_law 2133 = .ok (.iconst 1, 1) := by decide +kernel
theorem dL_law_2134 : decode cL_law 2134 = .ok (.goto 4, 3) := by decide +kernel
theorem dL_law_2137 : decode cL_law 2137 = .ok (.iconst 0, 1) := by decide +kernel
theorem dL_law_2138 : decode cL_law 2138 = .ok (.invokevirtual 253, 3) := by decide +kernel
theorem dL_law_2141 : decode cL_law 2141 = .ok (.istore 7, 2) := by decide +kernel
theorem dL_law_2143 : decode cL_law 2143 = .ok (.aload_n 2, 1) := by decide +kernel
theorem dL_law_2144 : decode cL_law 2144 = .ok (.invokevirtual 167, 3) := by decide +kernel
theorem dL_law_2147 : decode cL_law 2147 = .ok (.iload 6, 2) := by decide +kernel
theorem dL_law_2149 : decode cL_law 2149 = .ok (.if_icmp .eq 5, 3) := by decide +kernel
theorem dL_law_2152 : decode cL_law 2152 = .ok (.iconst 0, 1) := by decide +kernel
theorem dL_law_2153 : decode cL_law 2153 = .ok (.ireturn, 1) := by decide +kernel
theorem dL_law_2154 : decode cL_law 2154 = .ok (.iload 6, 2) := by decide +kernel
theorem dL_law_2156 : decode cL_law 2156 = .ok (.ifCond .ne 22, 3) := by decide +kernel
theorem dL_law_2159 : decode cL_law 2159 = .ok (.aload_n 3, 1) := by decide +kernel
theorem dL_law_2160 : decode cL_law 2160 = .ok (.iconst 0, 1) := by decide +kernel
theorem dL_law_2161 : decode cL_law 2161 = .ok (.laload, 1) := by decide +kernel
theorem dL_law_2162 : decode cL_law 2162 = .ok (.iload 7, 2) := by decide +kernel
theorem dL_law_2164 : decode cL_law 2164 = .ok (.ifCond .eq 7, 3) := by decide +kernel
theorem dL_law_2167 : decode cL_law 2167 = .ok (.lconst 1, 1) := by decide +kernel
theorem dL_law_2168 : decode cL_law 2168 = .ok (.goto 4, 3) := by decide +kernel
theorem dL_law_2171 : decode cL_law 2171 = .ok (.lconst 0, 1) := by decide +kernel
theorem dL_law_2172 : decode cL_law 2172 = .ok (.lcmp, 1) := by decide +kernel
theorem dL_law_2173 : decode cL_law 2173 = .ok (.ifCond .eq 5, 3) := by decide +kernel
theorem dL_law_2176 : decode cL_law 2176 = .ok (.iconst 0, 1) := by decide +kernel
theorem dL_law_2177 : decode cL_law 2177 = .ok (.ireturn, 1) := by decide +kernel
theorem dL_law_2178 : decode cL_law 2178 = .ok (.goto 919, 3) := by decide +kernel
theorem dL_law_2181 : decode cL_law 2181 = .ok (.aload_n 1, 1) := by decide +kernel
theorem dL_law_2182 : decode cL_law 2182 = .ok (.aload_n 0, 1) := by decide +kernel
theorem dL_law_2183 : decode cL_law 2183 = .ok (.iload 5, 2) := by decide +kernel
theorem dL_law_2185 : decode cL_law 2185 = .ok (.iconst 1, 1) := by decide +kernel
theorem dL_law_2186 : decode cL_law 2186 = .ok (.iadd, 1) := by decide +kernel
theorem dL_law_2187 : decode cL_law 2187 = .ok (.iaload, 1) := by decide +kernel
theorem dL_law_2188 : decode cL_law 2188 = .ok (.aload_n 0, 1) := by decide +kernel
theorem dL_law_2189 : decode cL_law 2189 = .ok (.iload 5, 2) := by decide +kernel
theorem dL_law_2191 : decode cL_law 2191 = .ok (.iconst 2, 1) := by decide +kernel
theorem dL_law_2192 : decode cL_law 2192 = .ok (.iadd, 1) := by decide +kernel
theorem dL_law_2193 : decode cL_law 2193 = .ok (.iaload, 1) := by decide +kernel
theorem dL_law_2194 : decode cL_law 2194 = .ok (.ifCond .eq 7, 3) := by decide +kernel
theorem dL_law_2197 : decode cL_law 2197 = .ok (.iconst 1, 1) := by decide +kernel
theorem dL_law_2198 : decode cL_law 2198 = .ok (.goto 4, 3) := by decide +kernel
theorem dL_law_2201 : decode cL_law 2201 = .ok (.iconst 0, 1) := by decide +kernel
theorem dL_law_2202 : decode cL_law 2202 = .ok (.aload_n 0, 1) := by decide +kernel
theorem dL_law_2203 : decode cL_law 2203 = .ok (.iload 5, 2) := by decide +kernel
theorem dL_law_2205 : decode cL_law 2205 = .ok (.iconst 3, 1) := by decide +kernel
theorem dL_law_2206 : decode cL_law 2206 = .ok (.iadd, 1) := by decide +kernel
theorem dL_law_2207 : decode cL_law 2207 = .ok (.iaload, 1) := by decide +kernel
theorem dL_law_2208 : decode cL_law 2208 = .ok (.ifCond .eq 7, 3) := by decide +kernel
theorem dL_law_2211 : decode cL_law 2211 = .ok (.iconst 1, 1) := by decide +kernel
theorem dL_law_2212 : decode cL_law 2212 = .ok (.goto 4, 3) := by decide +kernel
theorem dL_law_2215 : decode cL_law 2215 = .ok (.iconst 0, 1) := by decide +kernel
theorem dL_law_2216 : decode cL_law 2216 = .ok (.aload_n 3, 1) := by decide +kernel
theorem dL_law_2217 : decode cL_law 2217 = .ok (.invokestatic 254, 3) := by decide +kernel
theorem dL_law_2220 : decode cL_law 2220 = .ok (.istore 6, 2) := by decide +kernel
theorem dL_law_2222 : decode cL_law 2222 = .ok (.aload_n 2, 1) := by decide +kernel
theorem dL_law_2223 : decode cL_law 2223 = .ok (.aload_n 0, 1) := by decide +kernel
theorem dL_law_2224 : decode cL_law 2224 = .ok (.iload 5, 2) := by decide +kernel
theorem dL_law_2226 : decode cL_law 2226 = .ok (.iconst 1, 1) := by decide +kernel
theorem dL_law_2227 : decode cL_law 2227 = .ok (.iadd, 1) := by decide +kernel
theorem dL_law_2228 : decode cL_law 2228 = .ok (.iaload, 1) := by decide +kernel
theorem dL_law_2229 : decode cL_law 2229 = .ok (.aload_n 0, 1) := by decide +kernel
theorem dL_law_2230 : decode cL_law 2230 = .ok (.iload 5, 2) := by decide +kernel
theorem dL_law_2232 : decode cL_law 2232 = .ok (.iconst 2, 1) := by decide +kernel
theorem dL_law_2233 : decode cL_law 2233 = .ok (.iadd, 1) := by decide +kernel
theorem dL_law_2234 : decode cL_law 2234 = .ok (.iaload, 1) := by decide +kernel
theorem dL_law_2235 : decode cL_law 2235 = .ok (.ifCond .eq 7, 3) := by decide +kernel
theorem dL_law_2238 : decode cL_law 2238 = .ok (.iconst 1, 1) := by decide +kernel
theorem dL_law_2239 : decode cL_law 2239 = .ok (.goto 4, 3) := by decide +kernel
theorem dL_law_2242 : decode cL_law 2242 = .ok (.iconst 0, 1) := by decide +kernel
theorem dL_law_2243 : decode cL_law 2243 = .ok (.aload_n 0, 1) := by decide +kernel
theorem dL_law_2244 : decode cL_law 2244 = .ok (.iload 5, 2) := by decide +kernel
theorem dL_law_2246 : decode cL_law 2246 = .ok (.iconst 3, 1) := by decide +kernel
theorem dL_law_2247 : decode cL_law 2247 = .ok (.iadd, 1) := by decide +kernel
theorem dL_law_2248 : decode cL_law 2248 = .ok (.iaload, 1) := by decide +kernel
theorem dL_law_2249 : decode cL_law 2249 = .ok (.ifCond .eq 7, 3) := by decide +kernel
theorem dL_law_2252 : decode cL_law 2252 = .ok (.iconst 1, 1) := by decide +kernel
theorem dL_law_2253 : decode cL_law 2253 = .ok (.goto 4, 3) := by decide +kernel
theorem dL_law_2256 : decode cL_law 2256 = .ok (.iconst 0, 1) := by decide +kernel
theorem dL_law_2257 : decode cL_law 2257 = .ok (.invokevirtual 257, 3) := by decide +kernel
theorem dL_law_2260 : decode cL_law 2260 = .ok (.istore 7, 2) := by decide +kernel
theorem dL_law_2262 : decode cL_law 2262 = .ok (.aload_n 2, 1) := by decide +kernel
theorem dL_law_2263 : decode cL_law 2263 = .ok (.invokevirtual 167, 3) := by decide +kernel
theorem dL_law_2266 : decode cL_law 2266 = .ok (.iload 6, 2) := by decide +kernel
theorem dL_law_2268 : decode cL_law 2268 = .ok (.if_icmp .eq 5, 3) := by decide +kernel
theorem dL_law_2271 : decode cL_law 2271 = .ok (.iconst 0, 1) := by decide +kernel
theorem dL_law_2272 : decode cL_law 2272 = .ok (.ireturn, 1) := by decide +kernel
theorem dL_law_2273 : decode cL_law 2273 = .ok (.iload 6, 2) := by decide +kernel
theorem dL_law_2275 : decode cL_law 2275 = .ok (.ifCond .ne 22, 3) := by decide +kernel
theorem dL_law_2278 : decode cL_law 2278 = .ok (.aload_n 3, 1) := by decide +kernel
theorem dL_law_2279 : decode cL_law 2279 = .ok (.iconst 0, 1) := by decide +kernel
theorem dL_law_2280 : decode cL_law 2280 = .ok (.laload, 1) := by decide +kernel
theorem dL_law_2281 : decode cL_law 2281 = .ok (.iload 7, 2) := by decide +kernel
theorem dL_law_2283 : decode cL_law 2283 = .ok (.ifCond .eq 7, 3) := by decide +kernel
theorem dL_law_2286 : decode cL_law 2286 = .ok (.lconst 1, 1) := by decide +kernel
theorem dL_law_2287 : decode cL_law 2287 = .ok (.goto 4, 3) := by decide +kernel
theorem dL_law_2290 : decode cL_law 2290 = .ok (.lconst 0, 1) := by decide +kernel
theorem dL_law_2291 : decode cL_law 2291 = .ok (.lcmp, 1) := by decide +kernel
theorem dL_law_2292 : decode cL_law 2292 = .ok (.ifCond .eq 5, 3) := by decide +kernel
theorem dL_law_2295 : decode cL_law 2295 = .ok (.iconst 0, 1) := by decide +kernel
theorem dL_law_2296 : decode cL_law 2296 = .ok (.ireturn, 1) := by decide +kernel
theorem dL_law_2297 : decode cL_law 2297 = .ok (.goto 800, 3) := by decide +kernel
theorem dL_law_2300 : decode cL_law 2300 = .ok (.aload_n 1, 1) := by decide +kernel
theorem dL_law_2301 : decode cL_law 2301 = .ok (.aload_n 0, 1) := by decide +kernel
theorem dL_law_2302 : decode cL_law 2302 = .ok (.iload 5, 2) := by decide +kernel
theorem dL_law_2304 : decode cL_law 2304 = .ok (.iconst 1, 1) := by decide +kernel
theorem dL_law_2305 : decode cL_law 2305 = .ok (.iadd, 1) := by decide +kernel
theorem dL_law_2306 : decode cL_law 2306 = .ok (.iaload, 1) := by decide +kernel
theorem dL_law_2307 : decode cL_law 2307 = .ok (.aload_n 3, 1) := by decide +kernel
theorem dL_law_2308 : decode cL_law 2308 = .ok (.invokestatic 258, 3) := by decide +kernel
theorem dL_law_2311 : decode cL_law 2311 = .ok (.istore 6, 2) := by decide +kernel
theorem dL_law_2313 : decode cL_law 2313 = .ok (.aload_n 2, 1) := by decide +kernel
theorem dL_law_2314 : decode cL_law 2314 = .ok (.aload_n 0, 1) := by decide +kernel
theorem dL_law_2315 : decode cL_law 2315 = .ok (.iload 5, 2) := by decide +kernel
theorem dL_law_2317 : decode cL_law 2317 = .ok (.iconst 1, 1) := by decide +kernel
theorem dL_law_2318 : decode cL_law 2318 = .ok (.iadd, 1) := by decide +kernel
theorem dL_law_2319 : decode cL_law 2319 = .ok (.iaload, 1) := by decide +kernel
theorem dL_law_2320 : decode cL_law 2320 = .ok (.invokevirtual 260, 3) := by decide +kernel
theorem dL_law_2323 : decode cL_law 2323 = .ok (.istore 7, 2) := by decide +kernel
theorem dL_law_2325 : decode cL_law 2325 = .ok (.aload_n 2, 1) := by decide +kernel
theorem dL_law_2326 : decode cL_law 2326 = .ok (.invokevirtual 167, 3) := by decide +kernel
theorem dL_law_2329 : decode cL_law 2329 = .ok (.iload 6, 2) := by decide +kernel
theorem dL_law_2331 : decode cL_law 2331 = .ok (.if_icmp .eq 5, 3) := by decide +kernel
theorem dL_law_2334 : decode cL_law 2334 = .ok (.iconst 0, 1) := by decide +kernel
theorem dL_law_2335 : decode cL_law 2335 = .ok (.ireturn, 1) := by decide +kernel
theorem dL_law_2336 : decode cL_law 2336 = .ok (.iload 6, 2) := by decide +kernel
theorem dL_law_2338 : decode cL_law 2338 = .ok (.ifCond .ne 15, 3) := by decide +kernel
theorem dL_law_2341 : decode cL_law 2341 = .ok (.aload_n 3, 1) := by decide +kernel
theorem dL_law_2342 : decode cL_law 2342 = .ok (.iconst 0, 1) := by decide +kernel
theorem dL_law_2343 : decode cL_law 2343 = .ok (.laload, 1) := by decide +kernel
theorem dL_law_2344 : decode cL_law 2344 = .ok (.iload 7, 2) := by decide +kernel
theorem dL_law_2346 : decode cL_law 2346 = .ok (.i2l, 1) := by decide +kernel
theorem dL_law_2347 : decode cL_law 2347 = .ok (.lcmp, 1) := by decide +kernel
theorem dL_law_2348 : decode cL_law 2348 = .ok (.ifCond .eq 5, 3) := by decide +kernel
theorem dL_law_2351 : decode cL_law 2351 = .ok (.iconst 0, 1) := by decide +kernel
theorem dL_law_2352 : decode cL_law 2352 = .ok (.ireturn, 1) := by decide +kernel
theorem dL_law_2353 : decode cL_law 2353 = .ok (.goto 744, 3) := by decide +kernel
theorem dL_law_2356 : decode cL_law 2356 = .ok (.aload_n 1, 1) := by decide +kernel
theorem dL_law_2357 : decode cL_law 2357 = .ok (.aload_n 0, 1) := by decide +kernel
theorem dL_law_2358 : decode cL_law 2358 = .ok (.iload 5, 2) := by decide +kernel
theorem dL_law_2360 : decode cL_law 2360 = .ok (.iconst 1, 1) := by decide +kernel
theorem dL_law_2361 : decode cL_law 2361 = .ok (.iadd, 1) := by decide +kernel
theorem dL_law_2362 : decode cL_law 2362 = .ok (.iaload, 1) := by decide +kernel
theorem dL_law_2363 : decode cL_law 2363 = .ok (.aload_n 3, 1) := by decide +kernel
theorem dL_law_2364 : decode cL_law 2364 = .ok (.invokestatic 261, 3) := by decide +kernel
theorem dL_law_2367 : decode cL_law 2367 = .ok (.istore 6, 2) := by decide +kernel
theorem dL_law_2369 : decode cL_law 2369 = .ok (.aload_n 2, 1) := by decide +kernel
theorem dL_law_2370 : decode cL_law 2370 = .ok (.aload_n 0, 1) := by decide +kernel
theorem dL_law_2371 : decode cL_law 2371 = .ok (.iload 5, 2) := by decide +kernel
theorem dL_law_2373 : decode cL_law 2373 = .ok (.iconst 1, 1) := by decide +kernel
theorem dL_law_2374 : decode cL_law 2374 = .ok (.iadd, 1) := by decide +kernel
theorem dL_law_2375 : decode cL_law 2375 = .ok (.iaload, 1) := by decide +kernel
theorem dL_law_2376 : decode cL_law 2376 = .ok (.invokevirtual 263, 3) := by decide +kernel
theorem dL_law_2379 : decode cL_law 2379 = .ok (.istore 7, 2) := by decide +kernel
theorem dL_law_2381 : decode cL_law 2381 = .ok (.aload_n 2, 1) := by decide +kernel
theorem dL_law_2382 : decode cL_law 2382 = .ok (.invokevirtual 167, 3) := by decide +kernel
theorem dL_law_2385 : decode cL_law 2385 = .ok (.iload 6, 2) := by decide +kernel
theorem dL_law_2387 : decode cL_law 2387 = .ok (.if_icmp .eq 5, 3) := by decide +kernel
theorem dL_law_2390 : decode cL_law 2390 = .ok (.iconst 0, 1) := by decide +kernel
theorem dL_law_2391 : decode cL_law 2391 = .ok (.ireturn, 1) := by decide +kernel
theorem dL_law_2392 : decode cL_law 2392 = .ok (.iload 6, 2) := by decide +kernel
theorem dL_law_2394 : decode cL_law 2394 = .ok (.ifCond .ne 15, 3) := by decide +kernel
theorem dL_law_2397 : decode cL_law 2397 = .ok (.aload_n 3, 1) := by decide +kernel
theorem dL_law_2398 : decode cL_law 2398 = .ok (.iconst 0, 1) := by decide +kernel
theorem dL_law_2399 : decode cL_law 2399 = .ok (.laload, 1) := by decide +kernel
theorem dL_law_2400 : decode cL_law 2400 = .ok (.iload 7, 2) := by decide +kernel
theorem dL_law_2402 : decode cL_law 2402 = .ok (.i2l, 1) := by decide +kernel
theorem dL_law_2403 : decode cL_law 2403 = .ok (.lcmp, 1) := by decide +kernel
theorem dL_law_2404 : decode cL_law 2404 = .ok (.ifCond .eq 5, 3) := by decide +kernel
theorem dL_law_2407 : decode cL_law 2407 = .ok (.iconst 0, 1) := by decide +kernel
theorem dL_law_2408 : decode cL_law 2408 = .ok (.ireturn, 1) := by decide +kernel
theorem dL_law_2409 : decode cL_law 2409 = .ok (.goto 688, 3) := by decide +kernel
theorem dL_law_2412 : decode cL_law 2412 = .ok (.aload_n 1, 1) := by decide +kernel
theorem dL_law_2413 : decode cL_law 2413 = .ok (.aload_n 0, 1) := by decide +kernel
theorem dL_law_2414 : decode cL_law 2414 = .ok (.iload 5, 2) := by decide +kernel
theorem dL_law_2416 : decode cL_law 2416 = .ok (.iconst 1, 1) := by decide +kernel
theorem dL_law_2417 : decode cL_law 2417 = .ok (.iadd, 1) := by decide +kernel
theorem dL_law_2418 : decode cL_law 2418 = .ok (.iaload, 1) := by decide +kernel
theorem dL_law_2419 : decode cL_law 2419 = .ok (.aload_n 3, 1) := by decide +kernel
theorem dL_law_2420 : decode cL_law 2420 = .ok (.invokestatic 264, 3) := by decide +kernel
theorem dL_law_2423 : decode cL_law 2423 = .ok (.istore 6, 2) := by decide +kernel
theorem dL_law_2425 : decode cL_law 2425 = .ok (.aload_n 2, 1) := by decide +kernel
theorem dL_law_2426 : decode cL_law 2426 = .ok (.aload_n 0, 1) := by decide +kernel
theorem dL_law_2427 : decode cL_law 2427 = .ok (.iload 5, 2) := by decide +kernel
theorem dL_law_2429 : decode cL_law 2429 = .ok (.iconst 1, 1) := by decide +kernel
theorem dL_law_2430 : decode cL_law 2430 = .ok (.iadd, 1) := by decide +kernel
theorem dL_law_2431 : decode cL_law 2431 = .ok (.iaload, 1) := by decide +kernel
theorem dL_law_2432 : decode cL_law 2432 = .ok (.invokevirtual 266, 3) := by decide +kernel
theorem dL_law_2435 : decode cL_law 2435 = .ok (.istore 7, 2) := by decide +kernel
theorem dL_law_2437 : decode cL_law 2437 = .ok (.aload_n 2, 1) := by decide +kernel
theorem dL_law_2438 : decode cL_law 2438 = .ok (.invokevirtual 167, 3) := by decide +kernel
theorem dL_law_2441 : decode cL_law 2441 = .ok (.iload 6, 2) := by decide +kernel
theorem dL_law_2443 : decode cL_law 2443 = .ok (.if_icmp .eq 5, 3) := by decide +kernel
theorem dL_law_2446 : decode cL_law 2446 = .ok (.iconst 0, 1) := by decide +kernel
theorem dL_law_2447 : decode cL_law 2447 = .ok (.ireturn, 1) := by decide +kernel
theorem dL_law_2448 : decode cL_law 2448 = .ok (.iload 6, 2) := by decide +kernel
theorem dL_law_2450 : decode cL_law 2450 = .ok (.ifCond .ne 22, 3) := by decide +kernel
theorem dL_law_2453 : decode cL_law 2453 = .ok (.aload_n 3, 1) := by decide +kernel
theorem dL_law_2454 : decode cL_law 2454 = .ok (.iconst 0, 1) := by decide +kernel
theorem dL_law_2455 : decode cL_law 2455 = .ok (.laload, 1) := by decide +kernel
theorem dL_law_2456 : decode cL_law 2456 = .ok (.iload 7, 2) := by decide +kernel
theorem dL_law_2458 : decode cL_law 2458 = .ok (.ifCond .eq 7, 3) := by decide +kernel
theorem dL_law_2461 : decode cL_law 2461 = .ok (.lconst 1, 1) := by decide +kernel
theorem dL_law_2462 : decode cL_law 2462 = .ok (.goto 4, 3) := by decide +kernel
theorem dL_law_2465 : decode cL_law 2465 = .ok (.lconst 0, 1) := by decide +kernel
theorem dL_law_2466 : decode cL_law 2466 = .ok (.lcmp, 1) := by decide +kernel
theorem dL_law_2467 : decode cL_law 2467 = .ok (.ifCond .eq 5, 3) := by decide +kernel
theorem dL_law_2470 : decode cL_law 2470 = .ok (.iconst 0, 1) := by decide +kernel
theorem dL_law_2471 : decode cL_law 2471 = .ok (.ireturn, 1) := by decide +kernel
theorem dL_law_2472 : decode cL_law 2472 = .ok (.goto 625, 3) := by decide +kernel
theorem dL_law_2475 : decode cL_law 2475 = .ok (.aload_n 1, 1) := by decide +kernel
theorem dL_law_2476 : decode cL_law 2476 = .ok (.aload_n 0, 1) := by decide +kernel
theorem dL_law_2477 : decode cL_law 2477 = .ok (.iload 5, 2) := by decide +kernel
theorem dL_law_2479 : decode cL_law 2479 = .ok (.iconst 1, 1) := by decide +kernel
theorem dL_law_2480 : decode cL_law 2480 = .ok (.iadd, 1) := by decide +kernel
theorem dL_law_2481 : decode cL_law 2481 = .ok (.iaload, 1) := by decide +kernel
theorem dL_law_2482 : decode cL_law 2482 = .ok (.aload_n 3, 1) := by decide +kernel
theorem dL_law_2483 : decode cL_law 2483 = .ok (.invokestatic 267, 3) := by decide +kernel
theorem dL_law_2486 : decode cL_law 2486 = .ok (.istore 6, 2) := by decide +kernel
theorem dL_law_2488 : decode cL_law 2488 = .ok (.aload_n 2, 1) := by decide +kernel
theorem dL_law_2489 : decode cL_law 2489 = .ok (.aload_n 0, 1) := by decide +kernel
theorem dL_law_2490 : decode cL_law 2490 = .ok (.iload 5, 2) := by decide +kernel
theorem dL_law_2492 : decode cL_law 2492 = .ok (.iconst 1, 1) := by decide +kernel
theorem dL_law_2493 : decode cL_law 2493 = .ok (.iadd, 1) := by decide +kernel
theorem dL_law_2494 : decode cL_law 2494 = .ok (.iaload, 1) := by decide +kernel
theorem dL_law_2495 : decode cL_law 2495 = .ok (.invokevirtual 269, 3) := by decide +kernel
theorem dL_law_2498 : decode cL_law 2498 = .ok (.istore 7, 2) := by decide +kernel
theorem dL_law_2500 : decode cL_law 2500 = .ok (.aload_n 2, 1) := by decide +kernel
theorem dL_law_2501 : decode cL_law 2501 = .ok (.invokevirtual 167, 3) := by decide +kernel
theorem dL_law_2504 : decode cL_law 2504 = .ok (.iload 6, 2) := by decide +kernel
theorem dL_law_2506 : decode cL_law 2506 = .ok (.if_icmp .eq 5, 3) := by decide +kernel
theorem dL_law_2509 : decode cL_law 2509 = .ok (.iconst 0, 1) := by decide +kernel
theorem dL_law_2510 : decode cL_law 2510 = .ok (.ireturn, 1) := by decide +kernel
theorem dL_law_2511 : decode cL_law 2511 = .ok (.iload 6, 2) := by decide +kernel
theorem dL_law_2513 : decode cL_law 2513 = .ok (.ifCond .ne 15, 3) := by decide +kernel
theorem dL_law_2516 : decode cL_law 2516 = .ok (.aload_n 3, 1) := by decide +kernel
theorem dL_law_2517 : decode cL_law 2517 = .ok (.iconst 0, 1) := by decide +kernel
theorem dL_law_2518 : decode cL_law 2518 = .ok (.laload, 1) := by decide +kernel
theorem dL_law_2519 : decode cL_law 2519 = .ok (.iload 7, 2) := by decide +kernel
theorem dL_law_2521 : decode cL_law 2521 = .ok (.i2l, 1) := by decide +kernel
theorem dL_law_2522 : decode cL_law 2522 = .ok (.lcmp, 1) := by decide +kernel
theorem dL_law_2523 : decode cL_law 2523 = .ok (.ifCond .eq 5, 3) := by decide +kernel
theorem dL_law_2526 : decode cL_law 2526 = .ok (.iconst 0, 1) := by decide +kernel
theorem dL_law_2527 : decode cL_law 2527 = .ok (.ireturn, 1) := by decide +kernel
theorem dL_law_2528 : decode cL_law 2528 = .ok (.goto 569, 3) := by decide +kernel
theorem dL_law_2531 : decode cL_law 2531 = .ok (.aload_n 1, 1) := by decide +kernel
theorem dL_law_2532 : decode cL_law 2532 = .ok (.aload_n 0, 1) := by decide +kernel
theorem dL_law_2533 : decode cL_law 2533 = .ok (.iload 5, 2) := by decide +kernel
theorem dL_law_2535 : decode cL_law 2535 = .ok (.iconst 1, 1) := by decide +kernel
theorem dL_law_2536 : decode cL_law 2536 = .ok (.iadd, 1) := by decide +kernel
theorem dL_law_2537 : decode cL_law 2537 = .ok (.iaload, 1) := by decide +kernel
theorem dL_law_2538 : decode cL_law 2538 = .ok (.aload_n 3, 1) := by decide +kernel
theorem dL_law_2539 : decode cL_law 2539 = .ok (.invokestatic 270, 3) := by decide +kernel
theorem dL_law_2542 : decode cL_law 2542 = .ok (.istore 6, 2) := by decide +kernel
theorem dL_law_2544 : decode cL_law 2544 = .ok (.aload_n 2, 1) := by decide +kernel
theorem dL_law_2545 : decode cL_law 2545 = .ok (.aload_n 0, 1) := by decide +kernel
theorem dL_law_2546 : decode cL_law 2546 = .ok (.iload 5, 2) := by decide +kernel
theorem dL_law_2548 : decode cL_law 2548 = .ok (.iconst 1, 1) := by decide +kernel
theorem dL_law_2549 : decode cL_law 2549 = .ok (.iadd, 1) := by decide +kernel
theorem dL_law_2550 : decode cL_law 2550 = .ok (.iaload, 1) := by decide +kernel
theorem dL_law_2551 : decode cL_law 2551 = .ok (.invokevirtual 272, 3) := by decide +kernel
theorem dL_law_2554 : decode cL_law 2554 = .ok (.istore 7, 2) := by decide +kernel
theorem dL_law_2556 : decode cL_law 2556 = .ok (.aload_n 2, 1) := by decide +kernel
theorem dL_law_2557 : decode cL_law 2557 = .ok (.invokevirtual 167, 3) := by decide +kernel
theorem dL_law_2560 : decode cL_law 2560 = .ok (.iload 6, 2) := by decide +kernel
theorem dL_law_2562 : decode cL_law 2562 = .ok (.if_icmp .eq 5, 3) := by decide +kernel
theorem dL_law_2565 : decode cL_law 2565 = .ok (.iconst 0, 1) := by decide +kernel
theorem dL_law_2566 : decode cL_law 2566 = .ok (.ireturn, 1) := by decide +kernel
theorem dL_law_2567 : decode cL_law 2567 = .ok (.iload 6, 2) := by decide +kernel
theorem dL_law_2569 : decode cL_law 2569 = .ok (.ifCond .ne 22, 3) := by decide +kernel
theorem dL_law_2572 : decode cL_law 2572 = .ok (.aload_n 3, 1) := by decide +kernel
theorem dL_law_2573 : decode cL_law 2573 = .ok (.iconst 0, 1) := by decide +kernel
theorem dL_law_2574 : decode cL_law 2574 = .ok (.laload, 1) := by decide +kernel
theorem dL_law_2575 : decode cL_law 2575 = .ok (.iload 7, 2) := by decide +kernel
theorem dL_law_2577 : decode cL_law 2577 = .ok (.ifCond .eq 7, 3) := by decide +kernel
theorem dL_law_2580 : decode cL_law 2580 = .ok (.lconst 1, 1) := by decide +kernel
theorem dL_law_2581 : decode cL_law 2581 = .ok (.goto 4, 3) := by decide +kernel
theorem dL_law_2584 : decode cL_law 2584 = .ok (.lconst 0, 1) := by decide +kernel
theorem dL_law_2585 : decode cL_law 2585 = .ok (.lcmp, 1) := by decide +kernel
theorem dL_law_2586 : decode cL_law 2586 = .ok (.ifCond .eq 5, 3) := by decide +kernel
theorem dL_law_2589 : decode cL_law 2589 = .ok (.iconst 0, 1) := by decide +kernel
theorem dL_law_2590 : decode cL_law 2590 = .ok (.ireturn, 1) := by decide +kernel
theorem dL_law_2591 : decode cL_law 2591 = .ok (.goto 506, 3) := by decide +kernel
theorem dL_law_2594 : decode cL_law 2594 = .ok (.aload_n 1, 1) := by decide +kernel
theorem dL_law_2595 : decode cL_law 2595 = .ok (.aload_n 0, 1) := by decide +kernel
theorem dL_law_2596 : decode cL_law 2596 = .ok (.iload 5, 2) := by decide +kernel
theorem dL_law_2598 : decode cL_law 2598 = .ok (.iconst 1, 1) := by decide +kernel
theorem dL_law_2599 : decode cL_law 2599 = .ok (.iadd, 1) := by decide +kernel
theorem dL_law_2600 : decode cL_law 2600 = .ok (.iaload, 1) := by decide +kernel
theorem dL_law_2601 : decode cL_law 2601 = .ok (.aload_n 0, 1) := by decide +kernel
theorem dL_law_2602 : decode cL_law 2602 = .ok (.iload 5, 2) := by decide +kernel
theorem dL_law_2604 : decode cL_law 2604 = .ok (.iconst 2, 1) := by decide +kernel
theorem dL_law_2605 : decode cL_law 2605 = .ok (.iadd, 1) := by decide +kernel
theorem dL_law_2606 : decode cL_law 2606 = .ok (.iaload, 1) := by decide +kernel
theorem dL_law_2607 : decode cL_law 2607 = .ok (.aload_n 3, 1) := by decide +kernel
theorem dL_law_2608 : decode cL_law 2608 = .ok (.invokestatic 273, 3) := by decide +kernel
theorem dL_law_2611 : decode cL_law 2611 = .ok (.istore 6, 2) := by decide +kernel
theorem dL_law_2613 : decode cL_law 2613 = .ok (.aload_n 2, 1) := by decide +kernel
theorem dL_law_2614 : decode cL_law 2614 = .ok (.aload_n 0, 1) := by decide +kernel
theorem dL_law_2615 : decode cL_law 2615 = .ok (.iload 5, 2) := by decide +kernel
theorem dL_law_2617 : decode cL_law 2617 = .ok (.iconst 1, 1) := by decide +kernel
theorem dL_law_2618 : decode cL_law 2618 = .ok (.iadd, 1) := by decide +kernel
theorem dL_law_2619 : decode cL_law 2619 = .ok (.iaload, 1) := by decide +kernel
theorem dL_law_2620 : decode cL_law 2620 = .ok (.aload_n 0, 1) := by decide +kernel
theorem dL_law_2621 : decode cL_law 2621 = .ok (.iload 5, 2) := by decide +kernel
theorem dL_law_2623 : decode cL_law 2623 = .ok (.iconst 2, 1) := by decide +kernel
theorem dL_law_2624 : decode cL_law 2624 = .ok (.iadd, 1) := by decide +kernel
theorem dL_law_2625 : decode cL_law 2625 = .ok (.iaload, 1) := by decide +kernel
theorem dL_law_2626 : decode cL_law 2626 = .ok (.invokevirtual 275, 3) := by decide +kernel
theorem dL_law_2629 : decode cL_law 2629 = .ok (.istore 7, 2) := by decide +kernel
theorem dL_law_2631 : decode cL_law 2631 = .ok (.aload_n 2, 1) := by decide +kernel
theorem dL_law_2632 : decode cL_law 2632 = .ok (.invokevirtual 167, 3) := by decide +kernel
theorem dL_law_2635 : decode cL_law 2635 = .ok (.iload 6, 2) := by decide +kernel
theorem dL_law_2637 : decode cL_law 2637 = .ok (.if_icmp .eq 5, 3) := by decide +kernel
theorem dL_law_2640 : decode cL_law 2640 = .ok (.iconst 0, 1) := by decide +kernel
theorem dL_law_2641 : decode cL_law 2641 = .ok (.ireturn, 1) := by decide +kernel
theorem dL_law_2642 : decode cL_law 2642 = .ok (.iload 6, 2) := by decide +kernel
theorem dL_law_2644 : decode cL_law 2644 = .ok (.ifCond .ne 15, 3) := by decide +kernel
theorem dL_law_2647 : decode cL_law 2647 = .ok (.aload_n 3, 1) := by decide +kernel
theorem dL_law_2648 : decode cL_law 2648 = .ok (.iconst 0, 1) := by decide +kernel
theorem dL_law_2649 : decode cL_law 2649 = .ok (.laload, 1) := by decide +kernel
theorem dL_law_2650 : decode cL_law 2650 = .ok (.iload 7, 2) := by decide +kernel
theorem dL_law_2652 : decode cL_law 2652 = .ok (.i2l, 1) := by decide +kernel
theorem dL_law_2653 : decode cL_law 2653 = .ok (.lcmp, 1) := by decide +kernel
theorem dL_law_2654 : decode cL_law 2654 = .ok (.ifCond .eq 5, 3) := by decide +kernel
theorem dL_law_2657 : decode cL_law 2657 = .ok (.iconst 0, 1) := by decide +kernel
theorem dL_law_2658 : decode cL_law 2658 = .ok (.ireturn, 1) := by decide +kernel
theorem dL_law_2659 : decode cL_law 2659 = .ok (.goto 438, 3) := by decide +kernel
theorem dL_law_2662 : decode cL_law 2662 = .ok (.aload_n 1, 1) := by decide +kernel
theorem dL_law_2663 : decode cL_law 2663 = .ok (.aload_n 0, 1) := by decide +kernel
theorem dL_law_2664 : decode cL_law 2664 = .ok (.iload 5, 2) := by decide +kernel
theorem dL_law_2666 : decode cL_law 2666 = .ok (.iconst 1, 1) := by decide +kernel
theorem dL_law_2667 : decode cL_law 2667 = .ok (.iadd, 1) := by decide +kernel
theorem dL_law_2668 : decode cL_law 2668 = .ok (.iaload, 1) := by decide +kernel
theorem dL_law_2669 : decode cL_law 2669 = .ok (.i2c, 1) := by decide +kernel
theorem dL_law_2670 : decode cL_law 2670 = .ok (.aload_n 3, 1) := by decide +kernel
theorem dL_law_2671 : decode cL_law 2671 = .ok (.invokestatic 276, 3) := by decide +kernel
theorem dL_law_2674 : decode cL_law 2674 = .ok (.istore 6, 2) := by decide +kernel
theorem dL_law_2676 : decode cL_law 2676 = .ok (.aload_n 2, 1) := by decide +kernel
theorem dL_law_2677 : decode cL_law 2677 = .ok (.aload_n 0, 1) := by decide +kernel
theorem dL_law_2678 : decode cL_law 2678 = .ok (.iload 5, 2) := by decide +kernel
theorem dL_law_2680 : decode cL_law 2680 = .ok (.iconst 1, 1) := by decide +kernel
theorem dL_law_2681 : decode cL_law 2681 = .ok (.iadd, 1) := by decide +kernel
theorem dL_law_2682 : decode cL_law 2682 = .ok (.iaload, 1) := by decide +kernel
theorem dL_law_2683 : decode cL_law 2683 = .ok (.i2c, 1) := by decide +kernel
theorem dL_law_2684 : decode cL_law 2684 = .ok (.invokevirtual 279, 3) := by decide +kernel
theorem dL_law_2687 : decode cL_law 2687 = .ok (.istore 7, 2) := by decide +kernel
theorem dL_law_2689 : decode cL_law 2689 = .ok (.aload_n 2, 1) := by decide +kernel
theorem dL_law_2690 : decode cL_law 2690 = .ok (.invokevirtual 167, 3) := by decide +kernel
theorem dL_law_2693 : decode cL_law 2693 = .ok (.iload 6, 2) := by decide +kernel
theorem dL_law_2695 : decode cL_law 2695 = .ok (.if_icmp .eq 5, 3) := by decide +kernel
theorem dL_law_2698 : decode cL_law 2698 = .ok (.iconst 0, 1) := by decide +kernel
theorem dL_law_2699 : decode cL_law 2699 = .ok (.ireturn, 1) := by decide +kernel
theorem dL_law_2700 : decode cL_law 2700 = .ok (.iload 6, 2) := by decide +kernel
theorem dL_law_2702 : decode cL_law 2702 = .ok (.ifCond .ne 15, 3) := by decide +kernel
theorem dL_law_2705 : decode cL_law 2705 = .ok (.aload_n 3, 1) := by decide +kernel
theorem dL_law_2706 : decode cL_law 2706 = .ok (.iconst 0, 1) := by decide +kernel
theorem dL_law_2707 : decode cL_law 2707 = .ok (.laload, 1) := by decide +kernel
theorem dL_law_2708 : decode cL_law 2708 = .ok (.iload 7, 2) := by decide +kernel
theorem dL_law_2710 : decode cL_law 2710 = .ok (.i2l, 1) := by decide +kernel
theorem dL_law_2711 : decode cL_law 2711 = .ok (.lcmp, 1) := by decide +kernel
theorem dL_law_2712 : decode cL_law 2712 = .ok (.ifCond .eq 5, 3) := by decide +kernel
theorem dL_law_2715 : decode cL_law 2715 = .ok (.iconst 0, 1) := by decide +kernel
theorem dL_law_2716 : decode cL_law 2716 = .ok (.ireturn, 1) := by decide +kernel
theorem dL_law_2717 : decode cL_law 2717 = .ok (.goto 380, 3) := by decide +kernel
theorem dL_law_2720 : decode cL_law 2720 = .ok (.aload_n 1, 1) := by decide +kernel
theorem dL_law_2721 : decode cL_law 2721 = .ok (.invokevirtual 280, 3) := by decide +kernel
theorem dL_law_2724 : decode cL_law 2724 = .ok (.aload_n 2, 1) := by decide +kernel
theorem dL_law_2725 : decode cL_law 2725 = .ok (.invokevirtual 283, 3) := by decide +kernel
theorem dL_law_2728 : decode cL_law 2728 = .ok (.if_icmp .eq 369, 3) := by decide +kernel
theorem dL_law_2731 : decode cL_law 2731 = .ok (.iconst 0, 1) := by decide +kernel
theorem dL_law_2732 : decode cL_law 2732 = .ok (.ireturn, 1) := by decide +kernel
theorem dL_law_2733 : decode cL_law 2733 = .ok (.aload_n 1, 1) := by decide +kernel
theorem dL_law_2734 : decode cL_law 2734 = .ok (.aload_n 0, 1) := by decide +kernel
theorem dL_law_2735 : decode cL_law 2735 = .ok (.iload 5, 2) := by decide +kernel
theorem dL_law_2737 : decode cL_law 2737 = .ok (.iconst 1, 1) := by decide +kernel
theorem dL_law_2738 : decode cL_law 2738 = .ok (.iadd, 1) := by decide +kernel
theorem dL_law_2739 : decode cL_law 2739 = .ok (.iaload, 1) := by decide +kernel
theorem dL_law_2740 : decode cL_law 2740 = .ok (.aload_n 0, 1) := by decide +kernel
theorem dL_law_2741 : decode cL_law 2741 = .ok (.iload 5, 2) := by decide +kernel
theorem dL_law_2743 : decode cL_law 2743 = .ok (.iconst 2, 1) := by decide +kernel
theorem dL_law_2744 : decode cL_law 2744 = .ok (.iadd, 1) := by decide +kernel
theorem dL_law_2745 : decode cL_law 2745 = .ok (.iaload, 1) := by decide +kernel
theorem dL_law_2746 : decode cL_law 2746 = .ok (.aload_n 3, 1) := by decide +kernel
theorem dL_law_2747 : decode cL_law 2747 = .ok (.invokestatic 284, 3) := by decide +kernel
theorem dL_law_2750 : decode cL_law 2750 = .ok (.istore 6, 2) := by decide +kernel
theorem dL_law_2752 : decode cL_law 2752 = .ok (.aload_n 2, 1) := by decide +kernel
theorem dL_law_2753 : decode cL_law 2753 = .ok (.aload_n 0, 1) := by decide +kernel
theorem dL_law_2754 : decode cL_law 2754 = .ok (.iload 5, 2) := by decide +kernel
theorem dL_law_2756 : decode cL_law 2756 = .ok (.iconst 1, 1) := by decide +kernel
theorem dL_law_2757 : decode cL_law 2757 = .ok (.iadd, 1) := by decide +kernel
theorem dL_law_2758 : decode cL_law 2758 = .ok (.iaload, 1) := by decide +kernel
theorem dL_law_2759 : decode cL_law 2759 = .ok (.aload_n 0, 1) := by decide +kernel
theorem dL_law_2760 : decode cL_law 2760 = .ok (.iload 5, 2) := by decide +kernel
theorem dL_law_2762 : decode cL_law 2762 = .ok (.iconst 2, 1) := by decide +kernel
theorem dL_law_2763 : decode cL_law 2763 = .ok (.iadd, 1) := by decide +kernel
theorem dL_law_2764 : decode cL_law 2764 = .ok (.iaload, 1) := by decide +kernel
theorem dL_law_2765 : decode cL_law 2765 = .ok (.invokevirtual 286, 3) := by decide +kernel
theorem dL_law_2768 : decode cL_law 2768 = .ok (.istore 7, 2) := by decide +kernel
theorem dL_law_2770 : decode cL_law 2770 = .ok (.aload_n 2, 1) := by decide +kernel
theorem dL_law_2771 : decode cL_law 2771 = .ok (.invokevirtual 167, 3) := by decide +kernel
theorem dL_law_2774 : decode cL_law 2774 = .ok (.iload 6, 2) := by decide +kernel
theorem dL_law_2776 : decode cL_law 2776 = .ok (.if_icmp .eq 5, 3) := by decide +kernel
theorem dL_law_2779 : decode cL_law 2779 = .ok (.iconst 0, 1) := by decide +kernel
theorem dL_law_2780 : decode cL_law 2780 = .ok (.ireturn, 1) := by decide +kernel
theorem dL_law_2781 : decode cL_law 2781 = .ok (.iload 6, 2) := by decide +kernel
theorem dL_law_2783 : decode cL_law 2783 = .ok (.ifCond .ne 22, 3) := by decide +kernel
theorem dL_law_2786 : decode cL_law 2786 = .ok (.aload_n 3, 1) := by decide +kernel
theorem dL_law_2787 : decode cL_law 2787 = .ok (.iconst 0, 1) := by decide +kernel
theorem dL_law_2788 : decode cL_law 2788 = .ok (.laload, 1) := by decide +kernel
theorem dL_law_2789 : decode cL_law 2789 = .ok (.iload 7, 2) := by decide +kernel
theorem dL_law_2791 : decode cL_law 2791 = .ok (.ifCond .eq 7, 3) := by decide +kernel
theorem dL_law_2794 : decode cL_law 2794 = .ok (.lconst 1, 1) := by decide +kernel
theorem dL_law_2795 : decode cL_law 2795 = .ok (.goto 4, 3) := by decide +kernel
theorem dL_law_2798 : decode cL_law 2798 = .ok (.lconst 0, 1) := by decide +kernel
theorem dL_law_2799 : decode cL_law 2799 = .ok (.lcmp, 1) := by decide +kernel
theorem dL_law_2800 : decode cL_law 2800 = .ok (.ifCond .eq 5, 3) := by decide +kernel
theorem dL_law_2803 : decode cL_law 2803 = .ok (.iconst 0, 1) := by decide +kernel
theorem dL_law_2804 : decode cL_law 2804 = .ok (.ireturn, 1) := by decide +kernel
theorem dL_law_2805 : decode cL_law 2805 = .ok (.goto 292, 3) := by decide +kernel
theorem dL_law_2808 : decode cL_law 2808 = .ok (.aload_n 1, 1) := by decide +kernel
theorem dL_law_2809 : decode cL_law 2809 = .ok (.aload_n 0, 1) := by decide +kernel
theorem dL_law_2810 : decode cL_law 2810 = .ok (.iload 5, 2) := by decide +kernel
theorem dL_law_2812 : decode cL_law 2812 = .ok (.iconst 1, 1) := by decide +kernel
theorem dL_law_2813 : decode cL_law 2813 = .ok (.iadd, 1) := by decide +kernel
theorem dL_law_2814 : decode cL_law 2814 = .ok (.iaload, 1) := by decide +kernel
theorem dL_law_2815 : decode cL_law 2815 = .ok (.aload_n 3, 1) := by decide +kernel
theorem dL_law_2816 : decode cL_law 2816 = .ok (.invokestatic 287, 3) := by decide +kernel
theorem dL_law_2819 : decode cL_law 2819 = .ok (.istore 6, 2) := by decide +kernel
theorem dL_law_2821 : decode cL_law 2821 = .ok (.aload_n 2, 1) := by decide +kernel
theorem dL_law_2822 : decode cL_law 2822 = .ok (.aload_n 0, 1) := by decide +kernel
theorem dL_law_2823 : decode cL_law 2823 = .ok (.iload 5, 2) := by decide +kernel
theorem dL_law_2825 : decode cL_law 2825 = .ok (.iconst 1, 1) := by decide +kernel
theorem dL_law_2826 : decode cL_law 2826 = .ok (.iadd, 1) := by decide +kernel
theorem dL_law_2827 : decode cL_law 2827 = .ok (.iaload, 1) := by decide +kernel
theorem dL_law_2828 : decode cL_law 2828 = .ok (.invokevirtual 289, 3) := by decide +kernel
theorem dL_law_2831 : decode cL_law 2831 = .ok (.istore 7, 2) := by decide +kernel
theorem dL_law_2833 : decode cL_law 2833 = .ok (.aload_n 2, 1) := by decide +kernel
theorem dL_law_2834 : decode cL_law 2834 = .ok (.invokevirtual 167, 3) := by decide +kernel
theorem dL_law_2837 : decode cL_law 2837 = .ok (.iload 6, 2) := by decide +kernel
theorem dL_law_2839 : decode cL_law 2839 = .ok (.if_icmp .eq 5, 3) := by decide +kernel
theorem dL_law_2842 : decode cL_law 2842 = .ok (.iconst 0, 1) := by decide +kernel
theorem dL_law_2843 : decode cL_law 2843 = .ok (.ireturn, 1) := by decide +kernel
theorem dL_law_2844 : decode cL_law 2844 = .ok (.iload 6, 2) := by decide +kernel
theorem dL_law_2846 : decode cL_law 2846 = .ok (.ifCond .ne 22, 3) := by decide +kernel
theorem dL_law_2849 : decode cL_law 2849 = .ok (.aload_n 3, 1) := by decide +kernel
theorem dL_law_2850 : decode cL_law 2850 = .ok (.iconst 0, 1) := by decide +kernel
theorem dL_law_2851 : decode cL_law 2851 = .ok (.laload, 1) := by decide +kernel
theorem dL_law_2852 : decode cL_law 2852 = .ok (.iload 7, 2) := by decide +kernel
theorem dL_law_2854 : decode cL_law 2854 = .ok (.ifCond .eq 7, 3) := by decide +kernel
theorem dL_law_2857 : decode cL_law 2857 = .ok (.lconst 1, 1) := by decide +kernel
theorem dL_law_2858 : decode cL_law 2858 = .ok (.goto 4, 3) := by decide +kernel
theorem dL_law_2861 : decode cL_law 2861 = .ok (.lconst 0, 1) := by decide +kernel
theorem dL_law_2862 : decode cL_law 2862 = .ok (.lcmp, 1) := by decide +kernel
theorem dL_law_2863 : decode cL_law 2863 = .ok (.ifCond .eq 5, 3) := by decide +kernel
theorem dL_law_2866 : decode cL_law 2866 = .ok (.iconst 0, 1) := by decide +kernel
theorem dL_law_2867 : decode cL_law 2867 = .ok (.ireturn, 1) := by decide +kernel
theorem dL_law_2868 : decode cL_law 2868 = .ok (.goto 229, 3) := by decide +kernel
theorem dL_law_2871 : decode cL_law 2871 = .ok (.aload_n 1, 1) := by decide +kernel
theorem dL_law_2872 : decode cL_law 2872 = .ok (.aload_n 0, 1) := by decide +kernel
theorem dL_law_2873 : decode cL_law 2873 = .ok (.iload 5, 2) := by decide +kernel
theorem dL_law_2875 : decode cL_law 2875 = .ok (.iconst 1, 1) := by decide +kernel
theorem dL_law_2876 : decode cL_law 2876 = .ok (.iadd, 1) := by decide +kernel
theorem dL_law_2877 : decode cL_law 2877 = .ok (.iaload, 1) := by decide +kernel
theorem dL_law_2878 : decode cL_law 2878 = .ok (.aload_n 3, 1) := by decide +kernel
theorem dL_law_2879 : decode cL_law 2879 = .ok (.invokestatic 290, 3) := by decide +kernel
theorem dL_law_2882 : decode cL_law 2882 = .ok (.istore 6, 2) := by decide +kernel
theorem dL_law_2884 : decode cL_law 2884 = .ok (.aload_n 2, 1) := by decide +kernel
theorem dL_law_2885 : decode cL_law 2885 = .ok (.aload_n 0, 1) := by decide +kernel
theorem dL_law_2886 : decode cL_law 2886 = .ok (.iload 5, 2) := by decide +kernel
theorem dL_law_2888 : decode cL_law 2888 = .ok (.iconst 1, 1) := by decide +kernel
theorem dL_law_2889 : decode cL_law 2889 = .ok (.iadd, 1) := by decide +kernel
theorem dL_law_2890 : decode cL_law 2890 = .ok (.iaload, 1) := by decide +kernel
theorem dL_law_2891 : decode cL_law 2891 = .ok (.invokevirtual 292, 3) := by decide +kernel
theorem dL_law_2894 : decode cL_law 2894 = .ok (.istore 7, 2) := by decide +kernel
theorem dL_law_2896 : decode cL_law 2896 = .ok (.aload_n 2, 1) := by decide +kernel
theorem dL_law_2897 : decode cL_law 2897 = .ok (.invokevirtual 167, 3) := by decide +kernel
theorem dL_law_2900 : decode cL_law 2900 = .ok (.iload 6, 2) := by decide +kernel
theorem dL_law_2902 : decode cL_law 2902 = .ok (.if_icmp .eq 5, 3) := by decide +kernel
theorem dL_law_2905 : decode cL_law 2905 = .ok (.iconst 0, 1) := by decide +kernel
theorem dL_law_2906 : decode cL_law 2906 = .ok (.ireturn, 1) := by decide +kernel
theorem dL_law_2907 : decode cL_law 2907 = .ok (.iload 6, 2) := by decide +kernel
theorem dL_law_2909 : decode cL_law 2909 = .ok (.ifCond .ne 15, 3) := by decide +kernel
theorem dL_law_2912 : decode cL_law 2912 = .ok (.aload_n 3, 1) := by decide +kernel
theorem dL_law_2913 : decode cL_law 2913 = .ok (.iconst 0, 1) := by decide +kernel
theorem dL_law_2914 : decode cL_law 2914 = .ok (.laload, 1) := by decide +kernel
theorem dL_law_2915 : decode cL_law 2915 = .ok (.iload 7, 2) := by decide +kernel
theorem dL_law_2917 : decode cL_law 2917 = .ok (.i2l, 1) := by decide +kernel
theorem dL_law_2918 : decode cL_law 2918 = .ok (.lcmp, 1) := by decide +kernel
theorem dL_law_2919 : decode cL_law 2919 = .ok (.ifCond .eq 5, 3) := by decide +kernel
theorem dL_law_2922 : decode cL_law 2922 = .ok (.iconst 0, 1) := by decide +kernel
theorem dL_law_2923 : decode cL_law 2923 = .ok (.ireturn, 1) := by decide +kernel
theorem dL_law_2924 : decode cL_law 2924 = .ok (.goto 173, 3) := by decide +kernel
theorem dL_law_2927 : decode cL_law 2927 = .ok (.aload_n 1, 1) := by decide +kernel
theorem dL_law_2928 : decode cL_law 2928 = .ok (.invokevirtual 293, 3) := by decide +kernel
theorem dL_law_2931 : decode cL_law 2931 = .ok (.aload_n 2, 1) := by decide +kernel
theorem dL_law_2932 : decode cL_law 2932 = .ok (.invokevirtual 297, 3) := by decide +kernel
theorem dL_law_2935 : decode cL_law 2935 = .ok (.lcmp, 1) := by decide +kernel
theorem dL_law_2936 : decode cL_law 2936 = .ok (.ifCond .eq 161, 3) := by decide +kernel
theorem dL_law_2939 : decode cL_law 2939 = .ok (.iconst 0, 1) := by decide +kernel
theorem dL_law_2940 : decode cL_law 2940 = .ok (.ireturn, 1) := by decide +kernel
theorem dL_law_2941 : decode cL_law 2941 = .ok (.aload_n 1, 1) := by decide +kernel
theorem dL_law_2942 : decode cL_law 2942 = .ok (.aload 4, 2) := by decide +kernel
theorem dL_law_2944 : decode cL_law 2944 = .ok (.invokestatic 298, 3) := by decide +kernel
theorem dL_law_2947 : decode cL_law 2947 = .ok (.istore 6, 2) := by decide +kernel
theorem dL_law_2949 : decode cL_law 2949 = .ok (.aload_n 2, 1) := by decide +kernel
theorem dL_law_2950 : decode cL_law 2950 = .ok (.invokevirtual 301, 3) := by decide +kernel
theorem dL_law_2953 : decode cL_law 2953 = .ok (.fstore 7, 2) := by decide +kernel
theorem dL_law_2955 : decode cL_law 2955 = .ok (.aload_n 2, 1) := by decide +kernel
theorem dL_law_2956 : decode cL_law 2956 = .ok (.invokevirtual 167, 3) := by decide +kernel
theorem dL_law_2959 : decode cL_law 2959 = .ok (.iload 6, 2) := by decide +kernel
theorem dL_law_2961 : decode cL_law 2961 = .ok (.if_icmp .eq 5, 3) := by decide +kernel
theorem dL_law_2964 : decode cL_law 2964 = .ok (.iconst 0, 1) := by decide +kernel
theorem dL_law_2965 : decode cL_law 2965 = .ok (.ireturn, 1) := by decide +kernel
theorem dL_law_2966 : decode cL_law 2966 = .ok (.iload 6, 2) := by decide +kernel
theorem dL_law_2968 : decode cL_law 2968 = .ok (.ifCond .ne 36, 3) := by decide +kernel
theorem dL_law_2971 : decode cL_law 2971 = .ok (.aload 4, 2) := by decide +kernel
theorem dL_law_2973 : decode cL_law 2973 = .ok (.iconst 0, 1) := by decide +kernel
theorem dL_law_2974 : decode cL_law 2974 = .ok (.daload, 1) := by decide +kernel
theorem dL_law_2975 : decode cL_law 2975 = .ok (.fload 7, 2) := by decide +kernel
theorem dL_law_2977 : decode cL_law 2977 = .ok (.f2d, 1) := by decide +kernel
theorem dL_law_2978 : decode cL_law 2978 = .ok (.dcmp .l, 1) := by decide +kernel
theorem dL_law_2979 : decode cL_law 2979 = .ok (.ifCond .eq 25, 3) := by decide +kernel
theorem dL_law_2982 : decode cL_law 2982 = .ok (.aload 4, 2) := by decide +kernel
theorem dL_law_2984 : decode cL_law 2984 = .ok (.iconst 0, 1) := by decide +kernel
theorem dL_law_2985 : decode cL_law 2985 = .ok (.daload, 1) := by decide +kernel
theorem dL_law_2986 : decode cL_law 2986 = .ok (.aload 4, 2) := by decide +kernel
theorem dL_law_2988 : decode cL_law 2988 = .ok (.iconst 0, 1) := by decide +kernel
theorem dL_law_2989 : decode cL_law 2989 = .ok (.daload, 1) := by decide +kernel
theorem dL_law_2990 : decode cL_law 2990 = .ok (.dcmp .l, 1) := by decide +kernel
theorem dL_law_2991 : decode cL_law 2991 = .ok (.ifCond .eq 11, 3) := by decide +kernel
theorem dL_law_2994 : decode cL_law 2994 = .ok (.fload 7, 2) := by decide +kernel
theorem dL_law_2996 : decode cL_law 2996 = .ok (.fload 7, 2) := by decide +kernel
theorem dL_law_2998 : decode cL_law 2998 = .ok (.fcmp .l, 1) := by decide +kernel
theorem dL_law_2999 : decode cL_law 2999 = .ok (.ifCond .ne 5, 3) := by decide +kernel
theorem dL_law_3002 : decode cL_law 3002 = .ok (.iconst 0, 1) := by decide +kernel
theorem dL_law_3003 : decode cL_law 3003 = .ok (.ireturn, 1) := by decide +kernel
theorem dL_law_3004 : decode cL_law 3004 = .ok (.goto 93, 3) := by decide +kernel
theorem dL_law_3007 : decode cL_law 3007 = .ok (.aload_n 1, 1) := by decide +kernel
theorem dL_law_3008 : decode cL_law 3008 = .ok (.aload_n 0, 1) := by decide +kernel
theorem dL_law_3009 : decode cL_law 3009 = .ok (.iload 5, 2) := by decide +kernel
theorem dL_law_3011 : decode cL_law 3011 = .ok (.iconst 1, 1) := by decide +kernel
theorem dL_law_3012 : decode cL_law 3012 = .ok (.iadd, 1) := by decide +kernel
theorem dL_law_3013 : decode cL_law 3013 = .ok (.iaload, 1) := by decide +kernel
theorem dL_law_3014 : decode cL_law 3014 = .ok (.aload 4, 2) := by decide +kernel
theorem dL_law_3016 : decode cL_law 3016 = .ok (.invokestatic 302, 3) := by decide +kernel
theorem dL_law_3019 : decode cL_law 3019 = .ok (.istore 6, 2) := by decide +kernel
theorem dL_law_3021 : decode cL_law 3021 = .ok (.aload_n 2, 1) := by decide +kernel
theorem dL_law_3022 : decode cL_law 3022 = .ok (.aload_n 0, 1) := by decide +kernel
theorem dL_law_3023 : decode cL_law 3023 = .ok (.iload 5, 2) := by decide +kernel
theorem dL_law_3025 : decode cL_law 3025 = .ok (.iconst 1, 1) := by decide +kernel
theorem dL_law_3026 : decode cL_law 3026 = .ok (.iadd, 1) := by decide +kernel
theorem dL_law_3027 : decode cL_law 3027 = .ok (.iaload, 1) := by decide +kernel
theorem dL_law_3028 : decode cL_law 3028 = .ok (.invokevirtual 305, 3) := by decide +kernel
theorem dL_law_3031 : decode cL_law 3031 = .ok (.dstore 7, 2) := by decide +kernel
theorem dL_law_3033 : decode cL_law 3033 = .ok (.aload_n 2, 1) := by decide +kernel
theorem dL_law_3034 : decode cL_law 3034 = .ok (.invokevirtual 167, 3) := by decide +kernel
theorem dL_law_3037 : decode cL_law 3037 = .ok (.iload 6, 2) := by decide +kernel
theorem dL_law_3039 : decode cL_law 3039 = .ok (.if_icmp .eq 5, 3) := by decide +kernel
theorem dL_law_3042 : decode cL_law 3042 = .ok (.iconst 0, 1) := by decide +kernel
theorem dL_law_3043 : decode cL_law 3043 = .ok (.ireturn, 1) := by decide +kernel
theorem dL_law_3044 : decode cL_law 3044 = .ok (.iload 6, 2) := by decide +kernel
theorem dL_law_3046 : decode cL_law 3046 = .ok (.ifCond .ne 35, 3) := by decide +kernel
theorem dL_law_3049 : decode cL_law 3049 = .ok (.aload 4, 2) := by decide +kernel
theorem dL_law_3051 : decode cL_law 3051 = .ok (.iconst 0, 1) := by decide +kernel
theorem dL_law_3052 : decode cL_law 3052 = .ok (.daload, 1) := by decide +kernel
theorem dL_law_3053 : decode cL_law 3053 = .ok (.dload 7, 2) := by decide +kernel
theorem dL_law_3055 : decode cL_law 3055 = .ok (.dcmp .l, 1) := by decide +kernel
theorem dL_law_3056 : decode cL_law 3056 = .ok (.ifCond .eq 25, 3) := by decide +kernel
theorem dL_law_3059 : decode cL_law 3059 = .ok (.aload 4, 2) := by decide +kernel
theorem dL_law_3061 : decode cL_law 3061 = .ok (.iconst 0, 1) := by decide +kernel
theorem dL_law_3062 : decode cL_law 3062 = .ok (.daload, 1) := by decide +kernel
theorem dL_law_3063 : decode cL_law 3063 = .ok (.aload 4, 2) := by decide +kernel
theorem dL_law_3065 : decode cL_law 3065 = .ok (.iconst 0, 1) := by decide +kernel
theorem dL_law_3066 : decode cL_law 3066 = .ok (.daload, 1) := by decide +kernel
theorem dL_law_3067 : decode cL_law 3067 = .ok (.dcmp .l, 1) := by decide +kernel
theorem dL_law_3068 : decode cL_law 3068 = .ok (.ifCond .eq 11, 3) := by decide +kernel
theorem dL_law_3071 : decode cL_law 3071 = .ok (.dload 7, 2) := by decide +kernel
theorem dL_law_3073 : decode cL_law 3073 = .ok (.dload 7, 2) := by decide +kernel
theorem dL_law_3075 : decode cL_law 3075 = .ok (.dcmp .l, 1) := by decide +kernel
theorem dL_law_3076 : decode cL_law 3076 = .ok (.ifCond .ne 5, 3) := by decide +kernel
theorem dL_law_3079 : decode cL_law 3079 = .ok (.iconst 0, 1) := by decide +kernel
theorem dL_law_3080 : decode cL_law 3080 = .ok (.ireturn, 1) := by decide +kernel
theorem dL_law_3081 : decode cL_law 3081 = .ok (.goto 16, 3) := by decide +kernel
theorem dL_law_3084 : decode cL_law 3084 = .ok (.aload_n 1, 1) := by decide +kernel
theorem dL_law_3085 : decode cL_law 3085 = .ok (.invokevirtual 306, 3) := by decide +kernel
theorem dL_law_3088 : decode cL_law 3088 = .ok (.aload_n 2, 1) := by decide +kernel
theorem dL_law_3089 : decode cL_law 3089 = .ok (.invokevirtual 310, 3) := by decide +kernel
theorem dL_law_3092 : decode cL_law 3092 = .ok (.if_icmp .eq 5, 3) := by decide +kernel
theorem dL_law_3095 : decode cL_law 3095 = .ok (.iconst 0, 1) := by decide +kernel
theorem dL_law_3096 : decode cL_law 3096 = .ok (.ireturn, 1) := by decide +kernel
theorem dL_law_3097 : decode cL_law 3097 = .ok (.iinc 5 5, 3) := by decide +kernel
theorem dL_law_3100 : decode cL_law 3100 = .ok (.goto (-3072), 3) := by decide +kernel
theorem dL_law_3103 : decode cL_law 3103 = .ok (.iconst 1, 1) := by decide +kernel
theorem dL_law_3104 : decode cL_law 3104 = .ok (.ireturn, 1) := by decide +kernel
