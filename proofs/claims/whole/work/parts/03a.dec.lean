theorem dX0_init_0 : decode cX0_init 0 = .ok (.aload_n 0, 1) := by decide +kernel
theorem dX0_init_1 : decode cX0_init 1 = .ok (.invokespecial 3, 3) := by decide +kernel
theorem dX0_init_4 : decode cX0_init 4 = .ok (.aload_n 0, 1) := by decide +kernel
theorem dX0_init_5 : decode cX0_init 5 = .ok (.bipush 16, 2) := by decide +kernel
theorem dX0_init_7 : decode cX0_init 7 = .ok (.newarray .int, 2) := by decide +kernel
theorem dX0_init_9 : decode cX0_init 9 = .ok (.putfield 9, 3) := by decide +kernel
theorem dX0_init_12 : decode cX0_init 12 = .ok (.aload_n 0, 1) := by decide +kernel
theorem dX0_init_13 : decode cX0_init 13 = .ok (.bipush 16, 2) := by decide +kernel
theorem dX0_init_15 : decode cX0_init 15 = .ok (.newarray .int, 2) := by decide +kernel
theorem dX0_init_17 : decode cX0_init 17 = .ok (.putfield 15, 3) := by decide +kernel
theorem dX0_init_20 : decode cX0_init 20 = .ok (.aload_n 0, 1) := by decide +kernel
theorem dX0_init_21 : decode cX0_init 21 = .ok (.bipush 16, 2) := by decide +kernel
theorem dX0_init_23 : decode cX0_init 23 = .ok (.newarray .int, 2) := by decide +kernel
theorem dX0_init_25 : decode cX0_init 25 = .ok (.putfield 18, 3) := by decide +kernel
theorem dX0_init_28 : decode cX0_init 28 = .ok (.aload_n 0, 1) := by decide +kernel
theorem dX0_init_29 : decode cX0_init 29 = .ok (.bipush 16, 2) := by decide +kernel
theorem dX0_init_31 : decode cX0_init 31 = .ok (.newarray .int, 2) := by decide +kernel
theorem dX0_init_33 : decode cX0_init 33 = .ok (.putfield 21, 3) := by decide +kernel
theorem dX0_init_36 : decode cX0_init 36 = .ok (.aload_n 0, 1) := by decide +kernel
theorem dX0_init_37 : decode cX0_init 37 = .ok (.iconst 0, 1) := by decide +kernel
theorem dX0_init_38 : decode cX0_init 38 = .ok (.putfield 24, 3) := by decide +kernel
theorem dX0_init_41 : decode cX0_init 41 = .ok (.return_, 1) := by decide +kernel
theorem dX1_init_0 : decode cX1_init 0 = .ok (.aload_n 0, 1) := by decide +kernel
theorem dX1_init_1 : decode cX1_init 1 = .ok (.invokespecial 3, 3) := by decide +kernel
theorem dX1_init_4 : decode cX1_init 4 = .ok (.aload_n 0, 1) := by decide +kernel
theorem dX1_init_5 : decode cX1_init 5 = .ok (.iconst 4, 1) := by decide +kernel
theorem dX1_init_6 : decode cX1_init 6 = .ok (.bipush 60, 2) := by decide +kernel
theorem dX1_init_8 : decode cX1_init 8 = .ok (.multianewarray 9 2, 4) := by decide +kernel
theorem dX1_init_12 : decode cX1_init 12 = .ok (.putfield 11, 3) := by decide +kernel
theorem dX1_init_15 : decode cX1_init 15 = .ok (.aload_n 0, 1) := by decide +kernel
theorem dX1_init_16 : decode cX1_init 16 = .ok (.iconst 4, 1) := by decide +kernel
theorem dX1_init_17 : decode cX1_init 17 = .ok (.newarray .int, 2) := by decide +kernel
theorem dX1_init_19 : decode cX1_init 19 = .ok (.putfield 16, 3) := by decide +kernel
theorem dX1_init_22 : decode cX1_init 22 = .ok (.aload_n 0, 1) := by decide +kernel
theorem dX1_init_23 : decode cX1_init 23 = .ok (.iconst 4, 1) := by decide +kernel
theorem dX1_init_24 : decode cX1_init 24 = .ok (.newarray .int, 2) := by decide +kernel
theorem dX1_init_26 : decode cX1_init 26 = .ok (.putfield 20, 3) := by decide +kernel
theorem dX1_init_29 : decode cX1_init 29 = .ok (.aload_n 0, 1) := by decide +kernel
theorem dX1_init_30 : decode cX1_init 30 = .ok (.getfield 16, 3) := by decide +kernel
theorem dX1_init_33 : decode cX1_init 33 = .ok (.iconst (-1), 1) := by decide +kernel
theorem dX1_init_34 : decode cX1_init 34 = .ok (.invokestatic 23, 3) := by decide +kernel
theorem dX1_init_37 : decode cX1_init 37 = .ok (.return_, 1) := by decide +kernel
theorem dX1_findingAt_0 : decode cX1_findingAt 0 = .ok (.aload_n 0, 1) := by decide +kernel
theorem dX1_findingAt_1 : decode cX1_findingAt 1 = .ok (.getfield 16, 3) := by decide +kernel
theorem dX1_findingAt_4 : decode cX1_findingAt 4 = .ok (.iload_n 1, 1) := by decide +kernel
theorem dX1_findingAt_5 : decode cX1_findingAt 5 = .ok (.iaload, 1) := by decide +kernel
theorem dX1_findingAt_6 : decode cX1_findingAt 6 = .ok (.iconst (-1), 1) := by decide +kernel
theorem dX1_findingAt_7 : decode cX1_findingAt 7 = .ok (.if_icmp .ne 5, 3) := by decide +kernel
theorem dX1_findingAt_10 : decode cX1_findingAt 10 = .ok (.iconst 1, 1) := by decide +kernel
theorem dX1_findingAt_11 : decode cX1_findingAt 11 = .ok (.ireturn, 1) := by decide +kernel
theorem dX1_findingAt_12 : decode cX1_findingAt 12 = .ok (.aload_n 0, 1) := by decide +kernel
theorem dX1_findingAt_13 : decode cX1_findingAt 13 = .ok (.getfield 16, 3) := by decide +kernel
theorem dX1_findingAt_16 : decode cX1_findingAt 16 = .ok (.iload_n 1, 1) := by decide +kernel
theorem dX1_findingAt_17 : decode cX1_findingAt 17 = .ok (.iaload, 1) := by decide +kernel
theorem dX1_findingAt_18 : decode cX1_findingAt 18 = .ok (.iload_n 2, 1) := by decide +kernel
theorem dX1_findingAt_19 : decode cX1_findingAt 19 = .ok (.if_icmp .eq 5, 3) := by decide +kernel
theorem dX1_findingAt_22 : decode cX1_findingAt 22 = .ok (.iconst 3, 1) := by decide +kernel
theorem dX1_findingAt_23 : decode cX1_findingAt 23 = .ok (.ireturn, 1) := by decide +kernel
theorem dX1_findingAt_24 : decode cX1_findingAt 24 = .ok (.iload_n 3, 1) := by decide +kernel
theorem dX1_findingAt_25 : decode cX1_findingAt 25 = .ok (.aload_n 0, 1) := by decide +kernel
theorem dX1_findingAt_26 : decode cX1_findingAt 26 = .ok (.getfield 20, 3) := by decide +kernel
theorem dX1_findingAt_29 : decode cX1_findingAt 29 = .ok (.iload_n 1, 1) := by decide +kernel
theorem dX1_findingAt_30 : decode cX1_findingAt 30 = .ok (.iaload, 1) := by decide +kernel
theorem dX1_findingAt_31 : decode cX1_findingAt 31 = .ok (.invokestatic 29, 3) := by decide +kernel
theorem dX1_findingAt_34 : decode cX1_findingAt 34 = .ok (.ifCond .eq 7, 3) := by decide +kernel
theorem dX1_findingAt_37 : decode cX1_findingAt 37 = .ok (.iconst 0, 1) := by decide +kernel
theorem dX1_findingAt_38 : decode cX1_findingAt 38 = .ok (.goto 4, 3) := by decide +kernel
theorem dX1_findingAt_41 : decode cX1_findingAt 41 = .ok (.iconst 2, 1) := by decide +kernel
theorem dX1_findingAt_42 : decode cX1_findingAt 42 = .ok (.ireturn, 1) := by decide +kernel
theorem dX1_hasItems_0 : decode cX1_hasItems 0 = .ok (.iload_n 2, 1) := by decide +kernel
theorem dX1_hasItems_1 : decode cX1_hasItems 1 = .ok (.ifCond .lt 33, 3) := by decide +kernel
theorem dX1_hasItems_4 : decode cX1_hasItems 4 = .ok (.iload_n 3, 1) := by decide +kernel
theorem dX1_hasItems_5 : decode cX1_hasItems 5 = .ok (.ifCond .lt 29, 3) := by decide +kernel
theorem dX1_hasItems_8 : decode cX1_hasItems 8 = .ok (.iload_n 3, 1) := by decide +kernel
theorem dX1_hasItems_9 : decode cX1_hasItems 9 = .ok (.aload_n 0, 1) := by decide +kernel
theorem dX1_hasItems_10 : decode cX1_hasItems 10 = .ok (.getfield 20, 3) := by decide +kernel
theorem dX1_hasItems_13 : decode cX1_hasItems 13 = .ok (.iload_n 1, 1) := by decide +kernel
theorem dX1_hasItems_14 : decode cX1_hasItems 14 = .ok (.iaload, 1) := by decide +kernel
theorem dX1_hasItems_15 : decode cX1_hasItems 15 = .ok (.if_icmp .gt 19, 3) := by decide +kernel
theorem dX1_hasItems_18 : decode cX1_hasItems 18 = .ok (.iload_n 2, 1) := by decide +kernel
theorem dX1_hasItems_19 : decode cX1_hasItems 19 = .ok (.aload_n 0, 1) := by decide +kernel
theorem dX1_hasItems_20 : decode cX1_hasItems 20 = .ok (.getfield 20, 3) := by decide +kernel
theorem dX1_hasItems_23 : decode cX1_hasItems 23 = .ok (.iload_n 1, 1) := by decide +kernel
theorem dX1_hasItems_24 : decode cX1_hasItems 24 = .ok (.iaload, 1) := by decide +kernel
theorem dX1_hasItems_25 : decode cX1_hasItems 25 = .ok (.iload_n 3, 1) := by decide +kernel
theorem dX1_hasItems_26 : decode cX1_hasItems 26 = .ok (.isub, 1) := by decide +kernel
theorem dX1_hasItems_27 : decode cX1_hasItems 27 = .ok (.if_icmp .gt 7, 3) := by decide +kernel
theorem dX1_hasItems_30 : decode cX1_hasItems 30 = .ok (.iconst 1, 1) := by decide +kernel
theorem dX1_hasItems_31 : decode cX1_hasItems 31 = .ok (.goto 4, 3) := by decide +kernel
theorem dX1_hasItems_34 : decode cX1_hasItems 34 = .ok (.iconst 0, 1) := by decide +kernel
theorem dX1_hasItems_35 : decode cX1_hasItems 35 = .ok (.ireturn, 1) := by decide +kernel
theorem dX1_setItem_0 : decode cX1_setItem 0 = .ok (.aload_n 0, 1) := by decide +kernel
theorem dX1_setItem_1 : decode cX1_setItem 1 = .ok (.getfield 11, 3) := by decide +kernel
theorem dX1_setItem_4 : decode cX1_setItem 4 = .ok (.iload_n 1, 1) := by decide +kernel
theorem dX1_setItem_5 : decode cX1_setItem 5 = .ok (.aaload, 1) := by decide +kernel
theorem dX1_setItem_6 : decode cX1_setItem 6 = .ok (.iload_n 2, 1) := by decide +kernel
theorem dX1_setItem_7 : decode cX1_setItem 7 = .ok (.aload_n 0, 1) := by decide +kernel
theorem dX1_setItem_8 : decode cX1_setItem 8 = .ok (.getfield 16, 3) := by decide +kernel
theorem dX1_setItem_11 : decode cX1_setItem 11 = .ok (.iload_n 1, 1) := by decide +kernel
theorem dX1_setItem_12 : decode cX1_setItem 12 = .ok (.iaload, 1) := by decide +kernel
theorem dX1_setItem_13 : decode cX1_setItem 13 = .ok (.ifCond .ne 8, 3) := by decide +kernel
theorem dX1_setItem_16 : decode cX1_setItem 16 = .ok (.iload_n 3, 1) := by decide +kernel
theorem dX1_setItem_17 : decode cX1_setItem 17 = .ok (.i2b, 1) := by decide +kernel
theorem dX1_setItem_18 : decode cX1_setItem 18 = .ok (.goto 19, 3) := by decide +kernel
theorem dX1_setItem_21 : decode cX1_setItem 21 = .ok (.aload_n 0, 1) := by decide +kernel
theorem dX1_setItem_22 : decode cX1_setItem 22 = .ok (.getfield 16, 3) := by decide +kernel
theorem dX1_setItem_25 : decode cX1_setItem 25 = .ok (.iload_n 1, 1) := by decide +kernel
theorem dX1_setItem_26 : decode cX1_setItem 26 = .ok (.iaload, 1) := by decide +kernel
theorem dX1_setItem_27 : decode cX1_setItem 27 = .ok (.iconst 1, 1) := by decide +kernel
theorem dX1_setItem_28 : decode cX1_setItem 28 = .ok (.if_icmp .ne 8, 3) := by decide +kernel
theorem dX1_setItem_31 : decode cX1_setItem 31 = .ok (.iload_n 3, 1) := by decide +kernel
theorem dX1_setItem_32 : decode cX1_setItem 32 = .ok (.i2s, 1) := by decide +kernel
theorem dX1_setItem_33 : decode cX1_setItem 33 = .ok (.goto 4, 3) := by decide +kernel
theorem dX1_setItem_36 : decode cX1_setItem 36 = .ok (.iload_n 3, 1) := by decide +kernel
theorem dX1_setItem_37 : decode cX1_setItem 37 = .ok (.iastore, 1) := by decide +kernel
theorem dX1_setItem_38 : decode cX1_setItem 38 = .ok (.return_, 1) := by decide +kernel
theorem dX2_init_0 : decode cX2_init 0 = .ok (.aload_n 0, 1) := by decide +kernel
theorem dX2_init_1 : decode cX2_init 1 = .ok (.invokespecial 3, 3) := by decide +kernel
theorem dX2_init_4 : decode cX2_init 4 = .ok (.aload_n 0, 1) := by decide +kernel
theorem dX2_init_5 : decode cX2_init 5 = .ok (.bipush 8, 2) := by decide +kernel
theorem dX2_init_7 : decode cX2_init 7 = .ok (.newarray .int, 2) := by decide +kernel
theorem dX2_init_9 : decode cX2_init 9 = .ok (.putfield 9, 3) := by decide +kernel
theorem dX2_init_12 : decode cX2_init 12 = .ok (.aload_n 0, 1) := by decide +kernel
theorem dX2_init_13 : decode cX2_init 13 = .ok (.bipush 8, 2) := by decide +kernel
theorem dX2_init_15 : decode cX2_init 15 = .ok (.newarray .int, 2) := by decide +kernel
theorem dX2_init_17 : decode cX2_init 17 = .ok (.putfield 15, 3) := by decide +kernel
theorem dX2_init_20 : decode cX2_init 20 = .ok (.aload_n 0, 1) := by decide +kernel
theorem dX2_init_21 : decode cX2_init 21 = .ok (.bipush 64, 2) := by decide +kernel
theorem dX2_init_23 : decode cX2_init 23 = .ok (.newarray .int, 2) := by decide +kernel
theorem dX2_init_25 : decode cX2_init 25 = .ok (.putfield 18, 3) := by decide +kernel
theorem dX2_init_28 : decode cX2_init 28 = .ok (.aload_n 0, 1) := by decide +kernel
theorem dX2_init_29 : decode cX2_init 29 = .ok (.sipush 256, 3) := by decide +kernel
theorem dX2_init_32 : decode cX2_init 32 = .ok (.newarray .int, 2) := by decide +kernel
theorem dX2_init_34 : decode cX2_init 34 = .ok (.putfield 21, 3) := by decide +kernel
theorem dX2_init_37 : decode cX2_init 37 = .ok (.aload_n 0, 1) := by decide +kernel
theorem dX2_init_38 : decode cX2_init 38 = .ok (.iconst 0, 1) := by decide +kernel
theorem dX2_init_39 : decode cX2_init 39 = .ok (.putfield 24, 3) := by decide +kernel
theorem dX2_init_42 : decode cX2_init 42 = .ok (.aload_n 0, 1) := by decide +kernel
theorem dX2_init_43 : decode cX2_init 43 = .ok (.iconst (-1), 1) := by decide +kernel
theorem dX2_init_44 : decode cX2_init 44 = .ok (.putfield 28, 3) := by decide +kernel
theorem dX2_init_47 : decode cX2_init 47 = .ok (.return_, 1) := by decide +kernel
theorem dX2_takeFrom_0 : decode cX2_takeFrom 0 = .ok (.aload_n 0, 1) := by decide +kernel
theorem dX2_takeFrom_1 : decode cX2_takeFrom 1 = .ok (.aload_n 1, 1) := by decide +kernel
theorem dX2_takeFrom_2 : decode cX2_takeFrom 2 = .ok (.invokevirtual 31, 3) := by decide +kernel
theorem dX2_takeFrom_5 : decode cX2_takeFrom 5 = .ok (.iconst (-1), 1) := by decide +kernel
theorem dX2_takeFrom_6 : decode cX2_takeFrom 6 = .ok (.if_icmp .ne 15, 3) := by decide +kernel
theorem dX2_takeFrom_9 : decode cX2_takeFrom 9 = .ok (.bipush 8, 2) := by decide +kernel
theorem dX2_takeFrom_11 : decode cX2_takeFrom 11 = .ok (.aload_n 1, 1) := by decide +kernel
theorem dX2_takeFrom_12 : decode cX2_takeFrom 12 = .ok (.getfield 37, 3) := by decide +kernel
theorem dX2_takeFrom_15 : decode cX2_takeFrom 15 = .ok (.invokestatic 38, 3) := by decide +kernel
theorem dX2_takeFrom_18 : decode cX2_takeFrom 18 = .ok (.goto 4, 3) := by decide +kernel
theorem dX2_takeFrom_21 : decode cX2_takeFrom 21 = .ok (.iconst 0, 1) := by decide +kernel
theorem dX2_takeFrom_22 : decode cX2_takeFrom 22 = .ok (.putfield 24, 3) := by decide +kernel
theorem dX2_takeFrom_25 : decode cX2_takeFrom 25 = .ok (.iconst 0, 1) := by decide +kernel
theorem dX2_takeFrom_26 : decode cX2_takeFrom 26 = .ok (.istore_n 2, 1) := by decide +kernel
theorem dX2_takeFrom_27 : decode cX2_takeFrom 27 = .ok (.iload_n 2, 1) := by decide +kernel
theorem dX2_takeFrom_28 : decode cX2_takeFrom 28 = .ok (.aload_n 0, 1) := by decide +kernel
theorem dX2_takeFrom_29 : decode cX2_takeFrom 29 = .ok (.getfield 24, 3) := by decide +kernel
theorem dX2_takeFrom_32 : decode cX2_takeFrom 32 = .ok (.if_icmp .ge 24, 3) := by decide +kernel
theorem dX2_takeFrom_35 : decode cX2_takeFrom 35 = .ok (.aload_n 0, 1) := by decide +kernel
theorem dX2_takeFrom_36 : decode cX2_takeFrom 36 = .ok (.getfield 9, 3) := by decide +kernel
theorem dX2_takeFrom_39 : decode cX2_takeFrom 39 = .ok (.iload_n 2, 1) := by decide +kernel
theorem dX2_takeFrom_40 : decode cX2_takeFrom 40 = .ok (.aload_n 1, 1) := by decide +kernel
theorem dX2_takeFrom_41 : decode cX2_takeFrom 41 = .ok (.getfield 44, 3) := by decide +kernel
theorem dX2_takeFrom_44 : decode cX2_takeFrom 44 = .ok (.iload_n 2, 1) := by decide +kernel
theorem dX2_takeFrom_45 : decode cX2_takeFrom 45 = .ok (.iaload, 1) := by decide +kernel
theorem dX2_takeFrom_46 : decode cX2_takeFrom 46 = .ok (.bipush 97, 2) := by decide +kernel
theorem dX2_takeFrom_48 : decode cX2_takeFrom 48 = .ok (.isub, 1) := by decide +kernel
theorem dX2_takeFrom_49 : decode cX2_takeFrom 49 = .ok (.iastore, 1) := by decide +kernel
theorem dX2_takeFrom_50 : decode cX2_takeFrom 50 = .ok (.iinc 2 1, 3) := by decide +kernel
theorem dX2_takeFrom_53 : decode cX2_takeFrom 53 = .ok (.goto (-26), 3) := by decide +kernel
theorem dX2_takeFrom_56 : decode cX2_takeFrom 56 = .ok (.return_, 1) := by decide +kernel
theorem dX2_seekLeast_0 : decode cX2_seekLeast 0 = .ok (.aload_n 0, 1) := by decide +kernel
theorem dX2_seekLeast_1 : decode cX2_seekLeast 1 = .ok (.iconst (-1), 1) := by decide +kernel
theorem dX2_seekLeast_2 : decode cX2_seekLeast 2 = .ok (.putfield 28, 3) := by decide +kernel
theorem dX2_seekLeast_5 : decode cX2_seekLeast 5 = .ok (.aload_n 0, 1) := by decide +kernel
theorem dX2_seekLeast_6 : decode cX2_seekLeast 6 = .ok (.getfield 24, 3) := by decide +kernel
theorem dX2_seekLeast_9 : decode cX2_seekLeast 9 = .ok (.aload_n 1, 1) := by decide +kernel
theorem dX2_seekLeast_10 : decode cX2_seekLeast 10 = .ok (.getfield 47, 3) := by decide +kernel
theorem dX2_seekLeast_13 : decode cX2_seekLeast 13 = .ok (.if_icmp .gt 18, 3) := by decide +kernel
theorem dX2_seekLeast_16 : decode cX2_seekLeast 16 = .ok (.aload_n 0, 1) := by decide +kernel
theorem dX2_seekLeast_17 : decode cX2_seekLeast 17 = .ok (.invokevirtual 50, 3) := by decide +kernel
theorem dX2_seekLeast_20 : decode cX2_seekLeast 20 = .ok (.aload_n 1, 1) := by decide +kernel
theorem dX2_seekLeast_21 : decode cX2_seekLeast 21 = .ok (.iconst (-1), 1) := by decide +kernel
theorem dX2_seekLeast_22 : decode cX2_seekLeast 22 = .ok (.invokevirtual 53, 3) := by decide +kernel
theorem dX2_seekLeast_25 : decode cX2_seekLeast 25 = .ok (.iconst (-1), 1) := by decide +kernel
theorem dX2_seekLeast_26 : decode cX2_seekLeast 26 = .ok (.ixor, 1) := by decide +kernel
theorem dX2_seekLeast_27 : decode cX2_seekLeast 27 = .ok (.iand, 1) := by decide +kernel
theorem dX2_seekLeast_28 : decode cX2_seekLeast 28 = .ok (.ifCond .eq 4, 3) := by decide +kernel
theorem dX2_seekLeast_31 : decode cX2_seekLeast 31 = .ok (.return_, 1) := by decide +kernel
theorem dX2_seekLeast_32 : decode cX2_seekLeast 32 = .ok (.iconst 0, 1) := by decide +kernel
theorem dX2_seekLeast_33 : decode cX2_seekLeast 33 = .ok (.istore_n 2, 1) := by decide +kernel
theorem dX2_seekLeast_34 : decode cX2_seekLeast 34 = .ok (.iload_n 2, 1) := by decide +kernel
theorem dX2_seekLeast_35 : decode cX2_seekLeast 35 = .ok (.aload_n 0, 1) := by decide +kernel
theorem dX2_seekLeast_36 : decode cX2_seekLeast 36 = .ok (.getfield 24, 3) := by decide +kernel
theorem dX2_seekLeast_39 : decode cX2_seekLeast 39 = .ok (.if_icmp .ge 65, 3) := by decide +kernel
theorem dX2_seekLeast_42 : decode cX2_seekLeast 42 = .ok (.iconst 0, 1) := by decide +kernel
theorem dX2_seekLeast_43 : decode cX2_seekLeast 43 = .ok (.istore_n 3, 1) := by decide +kernel
theorem dX2_seekLeast_44 : decode cX2_seekLeast 44 = .ok (.iload_n 3, 1) := by decide +kernel
theorem dX2_seekLeast_45 : decode cX2_seekLeast 45 = .ok (.bipush 8, 2) := by decide +kernel
theorem dX2_seekLeast_47 : decode cX2_seekLeast 47 = .ok (.if_icmp .ge 51, 3) := by decide +kernel
theorem dX2_seekLeast_50 : decode cX2_seekLeast 50 = .ok (.aload_n 1, 1) := by decide +kernel
theorem dX2_seekLeast_51 : decode cX2_seekLeast 51 = .ok (.iload_n 3, 1) := by decide +kernel
theorem dX2_seekLeast_52 : decode cX2_seekLeast 52 = .ok (.aload_n 0, 1) := by decide +kernel
theorem dX2_seekLeast_53 : decode cX2_seekLeast 53 = .ok (.getfield 9, 3) := by decide +kernel
theorem dX2_seekLeast_56 : decode cX2_seekLeast 56 = .ok (.iload_n 2, 1) := by decide +kernel
theorem dX2_seekLeast_57 : decode cX2_seekLeast 57 = .ok (.iaload, 1) := by decide +kernel
theorem dX2_seekLeast_58 : decode cX2_seekLeast 58 = .ok (.invokevirtual 57, 3) := by decide +kernel
theorem dX2_seekLeast_61 : decode cX2_seekLeast 61 = .ok (.istore 4, 2) := by decide +kernel
theorem dX2_seekLeast_63 : decode cX2_seekLeast 63 = .ok (.aload_n 0, 1) := by decide +kernel
theorem dX2_seekLeast_64 : decode cX2_seekLeast 64 = .ok (.getfield 18, 3) := by decide +kernel
theorem dX2_seekLeast_67 : decode cX2_seekLeast 67 = .ok (.bipush 8, 2) := by decide +kernel
theorem dX2_seekLeast_69 : decode cX2_seekLeast 69 = .ok (.iload_n 2, 1) := by decide +kernel
theorem dX2_seekLeast_70 : decode cX2_seekLeast 70 = .ok (.imul, 1) := by decide +kernel
theorem dX2_seekLeast_71 : decode cX2_seekLeast 71 = .ok (.iload_n 3, 1) := by decide +kernel
theorem dX2_seekLeast_72 : decode cX2_seekLeast 72 = .ok (.iadd, 1) := by decide +kernel
theorem dX2_seekLeast_73 : decode cX2_seekLeast 73 = .ok (.iload 4, 2) := by decide +kernel
theorem dX2_seekLeast_75 : decode cX2_seekLeast 75 = .ok (.ifCond .le 14, 3) := by decide +kernel
theorem dX2_seekLeast_78 : decode cX2_seekLeast 78 = .ok (.aload_n 1, 1) := by decide +kernel
theorem dX2_seekLeast_79 : decode cX2_seekLeast 79 = .ok (.iload_n 3, 1) := by decide +kernel
theorem dX2_seekLeast_80 : decode cX2_seekLeast 80 = .ok (.invokevirtual 60, 3) := by decide +kernel
theorem dX2_seekLeast_83 : decode cX2_seekLeast 83 = .ok (.iload 4, 2) := by decide +kernel
theorem dX2_seekLeast_85 : decode cX2_seekLeast 85 = .ok (.isub, 1) := by decide +kernel
theorem dX2_seekLeast_86 : decode cX2_seekLeast 86 = .ok (.goto 5, 3) := by decide +kernel
theorem dX2_seekLeast_89 : decode cX2_seekLeast 89 = .ok (.ldc 63, 2) := by decide +kernel
theorem dX2_seekLeast_91 : decode cX2_seekLeast 91 = .ok (.iastore, 1) := by decide +kernel
theorem dX2_seekLeast_92 : decode cX2_seekLeast 92 = .ok (.iinc 3 1, 3) := by decide +kernel
theorem dX2_seekLeast_95 : decode cX2_seekLeast 95 = .ok (.goto (-51), 3) := by decide +kernel
theorem dX2_seekLeast_98 : decode cX2_seekLeast 98 = .ok (.iinc 2 1, 3) := by decide +kernel
theorem dX2_seekLeast_101 : decode cX2_seekLeast 101 = .ok (.goto (-67), 3) := by decide +kernel
theorem dX2_seekLeast_104 : decode cX2_seekLeast 104 = .ok (.aload_n 0, 1) := by decide +kernel
theorem dX2_seekLeast_105 : decode cX2_seekLeast 105 = .ok (.getfield 21, 3) := by decide +kernel
theorem dX2_seekLeast_108 : decode cX2_seekLeast 108 = .ok (.iconst (-1), 1) := by decide +kernel
theorem dX2_seekLeast_109 : decode cX2_seekLeast 109 = .ok (.invokestatic 64, 3) := by decide +kernel
theorem dX2_seekLeast_112 : decode cX2_seekLeast 112 = .ok (.aload_n 0, 1) := by decide +kernel
theorem dX2_seekLeast_113 : decode cX2_seekLeast 113 = .ok (.iconst 0, 1) := by decide +kernel
theorem dX2_seekLeast_114 : decode cX2_seekLeast 114 = .ok (.iconst 0, 1) := by decide +kernel
theorem dX2_seekLeast_115 : decode cX2_seekLeast 115 = .ok (.invokestatic 70, 3) := by decide +kernel
theorem dX2_seekLeast_118 : decode cX2_seekLeast 118 = .ok (.istore_n 2, 1) := by decide +kernel
theorem dX2_seekLeast_119 : decode cX2_seekLeast 119 = .ok (.aload_n 0, 1) := by decide +kernel
theorem dX2_seekLeast_120 : decode cX2_seekLeast 120 = .ok (.iload_n 2, 1) := by decide +kernel
theorem dX2_seekLeast_121 : decode cX2_seekLeast 121 = .ok (.ldc 63, 2) := by decide +kernel
theorem dX2_seekLeast_123 : decode cX2_seekLeast 123 = .ok (.if_icmp .ge 7, 3) := by decide +kernel
theorem dX2_seekLeast_126 : decode cX2_seekLeast 126 = .ok (.iload_n 2, 1) := by decide +kernel
theorem dX2_seekLeast_127 : decode cX2_seekLeast 127 = .ok (.goto 4, 3) := by decide +kernel
theorem dX2_seekLeast_130 : decode cX2_seekLeast 130 = .ok (.iconst (-1), 1) := by decide +kernel
theorem dX2_seekLeast_131 : decode cX2_seekLeast 131 = .ok (.putfield 28, 3) := by decide +kernel
theorem dX2_seekLeast_134 : decode cX2_seekLeast 134 = .ok (.return_, 1) := by decide +kernel
theorem dX2_seekRow_0 : decode cX2_seekRow 0 = .ok (.aload_n 0, 1) := by decide +kernel
theorem dX2_seekRow_1 : decode cX2_seekRow 1 = .ok (.aload_n 1, 1) := by decide +kernel
theorem dX2_seekRow_2 : decode cX2_seekRow 2 = .ok (.invokevirtual 74, 3) := by decide +kernel
theorem dX2_seekRow_5 : decode cX2_seekRow 5 = .ok (.iconst 0, 1) := by decide +kernel
theorem dX2_seekRow_6 : decode cX2_seekRow 6 = .ok (.istore_n 2, 1) := by decide +kernel
theorem dX2_seekRow_7 : decode cX2_seekRow 7 = .ok (.iconst 0, 1) := by decide +kernel
theorem dX2_seekRow_8 : decode cX2_seekRow 8 = .ok (.istore_n 3, 1) := by decide +kernel
theorem dX2_seekRow_9 : decode cX2_seekRow 9 = .ok (.iload_n 3, 1) := by decide +kernel
theorem dX2_seekRow_10 : decode cX2_seekRow 10 = .ok (.aload_n 0, 1) := by decide +kernel
theorem dX2_seekRow_11 : decode cX2_seekRow 11 = .ok (.getfield 24, 3) := by decide +kernel
theorem dX2_seekRow_14 : decode cX2_seekRow 14 = .ok (.if_icmp .ge 40, 3) := by decide +kernel
theorem dX2_seekRow_17 : decode cX2_seekRow 17 = .ok (.aload_n 0, 1) := by decide +kernel
theorem dX2_seekRow_18 : decode cX2_seekRow 18 = .ok (.getfield 28, 3) := by decide +kernel
theorem dX2_seekRow_21 : decode cX2_seekRow 21 = .ok (.iconst (-1), 1) := by decide +kernel
theorem dX2_seekRow_22 : decode cX2_seekRow 22 = .ok (.if_icmp .eq 32, 3) := by decide +kernel
theorem dX2_seekRow_25 : decode cX2_seekRow 25 = .ok (.aload_n 0, 1) := by decide +kernel
theorem dX2_seekRow_26 : decode cX2_seekRow 26 = .ok (.getfield 15, 3) := by decide +kernel
theorem dX2_seekRow_29 : decode cX2_seekRow 29 = .ok (.iload_n 3, 1) := by decide +kernel
theorem dX2_seekRow_30 : decode cX2_seekRow 30 = .ok (.aload_n 0, 1) := by decide +kernel
theorem dX2_seekRow_31 : decode cX2_seekRow 31 = .ok (.iload_n 2, 1) := by decide +kernel
theorem dX2_seekRow_32 : decode cX2_seekRow 32 = .ok (.iload_n 3, 1) := by decide +kernel
theorem dX2_seekRow_33 : decode cX2_seekRow 33 = .ok (.invokevirtual 78, 3) := by decide +kernel
theorem dX2_seekRow_36 : decode cX2_seekRow 36 = .ok (.iastore, 1) := by decide +kernel
theorem dX2_seekRow_37 : decode cX2_seekRow 37 = .ok (.iload_n 2, 1) := by decide +kernel
theorem dX2_seekRow_38 : decode cX2_seekRow 38 = .ok (.iconst 1, 1) := by decide +kernel
theorem dX2_seekRow_39 : decode cX2_seekRow 39 = .ok (.aload_n 0, 1) := by decide +kernel
theorem dX2_seekRow_40 : decode cX2_seekRow 40 = .ok (.getfield 15, 3) := by decide +kernel
theorem dX2_seekRow_43 : decode cX2_seekRow 43 = .ok (.iload_n 3, 1) := by decide +kernel
theorem dX2_seekRow_44 : decode cX2_seekRow 44 = .ok (.iaload, 1) := by decide +kernel
theorem dX2_seekRow_45 : decode cX2_seekRow 45 = .ok (.ishl, 1) := by decide +kernel
theorem dX2_seekRow_46 : decode cX2_seekRow 46 = .ok (.ior, 1) := by decide +kernel
theorem dX2_seekRow_47 : decode cX2_seekRow 47 = .ok (.istore_n 2, 1) := by decide +kernel
theorem dX2_seekRow_48 : decode cX2_seekRow 48 = .ok (.iinc 3 1, 3) := by decide +kernel
theorem dX2_seekRow_51 : decode cX2_seekRow 51 = .ok (.goto (-42), 3) := by decide +kernel
theorem dX2_seekRow_54 : decode cX2_seekRow 54 = .ok (.return_, 1) := by decide +kernel
theorem dX2_voices_0 : decode cX2_voices 0 = .ok (.iconst 0, 1) := by decide +kernel
theorem dX2_voices_1 : decode cX2_voices 1 = .ok (.istore_n 1, 1) := by decide +kernel
theorem dX2_voices_2 : decode cX2_voices 2 = .ok (.iconst 0, 1) := by decide +kernel
theorem dX2_voices_3 : decode cX2_voices 3 = .ok (.istore_n 2, 1) := by decide +kernel
theorem dX2_voices_4 : decode cX2_voices 4 = .ok (.iload_n 2, 1) := by decide +kernel
theorem dX2_voices_5 : decode cX2_voices 5 = .ok (.aload_n 0, 1) := by decide +kernel
theorem dX2_voices_6 : decode cX2_voices 6 = .ok (.getfield 24, 3) := by decide +kernel
theorem dX2_voices_9 : decode cX2_voices 9 = .ok (.if_icmp .ge 20, 3) := by decide +kernel
theorem dX2_voices_12 : decode cX2_voices 12 = .ok (.iload_n 1, 1) := by decide +kernel
theorem dX2_voices_13 : decode cX2_voices 13 = .ok (.iconst 1, 1) := by decide +kernel
theorem dX2_voices_14 : decode cX2_voices 14 = .ok (.aload_n 0, 1) := by decide +kernel
theorem dX2_voices_15 : decode cX2_voices 15 = .ok (.getfield 9, 3) := by decide +kernel
theorem dX2_voices_18 : decode cX2_voices 18 = .ok (.iload_n 2, 1) := by decide +kernel
theorem dX2_voices_19 : decode cX2_voices 19 = .ok (.iaload, 1) := by decide +kernel
theorem dX2_voices_20 : decode cX2_voices 20 = .ok (.ishl, 1) := by decide +kernel
theorem dX2_voices_21 : decode cX2_voices 21 = .ok (.ior, 1) := by decide +kernel
theorem dX2_voices_22 : decode cX2_voices 22 = .ok (.istore_n 1, 1) := by decide +kernel
theorem dX2_voices_23 : decode cX2_voices 23 = .ok (.iinc 2 1, 3) := by decide +kernel
theorem dX2_voices_26 : decode cX2_voices 26 = .ok (.goto (-22), 3) := by decide +kernel
theorem dX2_voices_29 : decode cX2_voices 29 = .ok (.iload_n 1, 1) := by decide +kernel
theorem dX2_voices_30 : decode cX2_voices 30 = .ok (.ireturn, 1) := by decide +kernel
theorem dX2_leastFrom_0 : decode cX2_leastFrom 0 = .ok (.iload_n 2, 1) := by decide +kernel
theorem dX2_leastFrom_1 : decode cX2_leastFrom 1 = .ok (.aload_n 0, 1) := by decide +kernel
theorem dX2_leastFrom_2 : decode cX2_leastFrom 2 = .ok (.getfield 24, 3) := by decide +kernel
theorem dX2_leastFrom_5 : decode cX2_leastFrom 5 = .ok (.if_icmp .lt 5, 3) := by decide +kernel
theorem dX2_leastFrom_8 : decode cX2_leastFrom 8 = .ok (.iconst 0, 1) := by decide +kernel
theorem dX2_leastFrom_9 : decode cX2_leastFrom 9 = .ok (.ireturn, 1) := by decide +kernel
theorem dX2_leastFrom_10 : decode cX2_leastFrom 10 = .ok (.aload_n 0, 1) := by decide +kernel
theorem dX2_leastFrom_11 : decode cX2_leastFrom 11 = .ok (.getfield 21, 3) := by decide +kernel
theorem dX2_leastFrom_14 : decode cX2_leastFrom 14 = .ok (.iload_n 1, 1) := by decide +kernel
theorem dX2_leastFrom_15 : decode cX2_leastFrom 15 = .ok (.iaload, 1) := by decide +kernel
theorem dX2_leastFrom_16 : decode cX2_leastFrom 16 = .ok (.iconst (-1), 1) := by decide +kernel
theorem dX2_leastFrom_17 : decode cX2_leastFrom 17 = .ok (.if_icmp .eq 10, 3) := by decide +kernel
theorem dX2_leastFrom_20 : decode cX2_leastFrom 20 = .ok (.aload_n 0, 1) := by decide +kernel
theorem dX2_leastFrom_21 : decode cX2_leastFrom 21 = .ok (.getfield 21, 3) := by decide +kernel
theorem dX2_leastFrom_24 : decode cX2_leastFrom 24 = .ok (.iload_n 1, 1) := by decide +kernel
theorem dX2_leastFrom_25 : decode cX2_leastFrom 25 = .ok (.iaload, 1) := by decide +kernel
theorem dX2_leastFrom_26 : decode cX2_leastFrom 26 = .ok (.ireturn, 1) := by decide +kernel
theorem dX2_leastFrom_27 : decode cX2_leastFrom 27 = .ok (.ldc 63, 2) := by decide +kernel
theorem dX2_leastFrom_29 : decode cX2_leastFrom 29 = .ok (.istore_n 3, 1) := by decide +kernel
theorem dX2_leastFrom_30 : decode cX2_leastFrom 30 = .ok (.iconst 0, 1) := by decide +kernel
theorem dX2_leastFrom_31 : decode cX2_leastFrom 31 = .ok (.istore 4, 2) := by decide +kernel
theorem dX2_leastFrom_33 : decode cX2_leastFrom 33 = .ok (.iload 4, 2) := by decide +kernel
theorem dX2_leastFrom_35 : decode cX2_leastFrom 35 = .ok (.bipush 8, 2) := by decide +kernel
theorem dX2_leastFrom_37 : decode cX2_leastFrom 37 = .ok (.if_icmp .ge 51, 3) := by decide +kernel
theorem dX2_leastFrom_40 : decode cX2_leastFrom 40 = .ok (.aload_n 0, 1) := by decide +kernel
theorem dX2_leastFrom_41 : decode cX2_leastFrom 41 = .ok (.iload_n 1, 1) := by decide +kernel
theorem dX2_leastFrom_42 : decode cX2_leastFrom 42 = .ok (.iload_n 2, 1) := by decide +kernel
theorem dX2_leastFrom_43 : decode cX2_leastFrom 43 = .ok (.iload 4, 2) := by decide +kernel
theorem dX2_leastFrom_45 : decode cX2_leastFrom 45 = .ok (.invokevirtual 81, 3) := by decide +kernel
theorem dX2_leastFrom_48 : decode cX2_leastFrom 48 = .ok (.ifCond .eq 34, 3) := by decide +kernel
theorem dX2_leastFrom_51 : decode cX2_leastFrom 51 = .ok (.iload_n 3, 1) := by decide +kernel
theorem dX2_leastFrom_52 : decode cX2_leastFrom 52 = .ok (.aload_n 0, 1) := by decide +kernel
theorem dX2_leastFrom_53 : decode cX2_leastFrom 53 = .ok (.getfield 18, 3) := by decide +kernel
theorem dX2_leastFrom_56 : decode cX2_leastFrom 56 = .ok (.bipush 8, 2) := by decide +kernel
theorem dX2_leastFrom_58 : decode cX2_leastFrom 58 = .ok (.iload_n 2, 1) := by decide +kernel
theorem dX2_leastFrom_59 : decode cX2_leastFrom 59 = .ok (.imul, 1) := by decide +kernel
theorem dX2_leastFrom_60 : decode cX2_leastFrom 60 = .ok (.iload 4, 2) := by decide +kernel
theorem dX2_leastFrom_62 : decode cX2_leastFrom 62 = .ok (.iadd, 1) := by decide +kernel
theorem dX2_leastFrom_63 : decode cX2_leastFrom 63 = .ok (.iaload, 1) := by decide +kernel
theorem dX2_leastFrom_64 : decode cX2_leastFrom 64 = .ok (.aload_n 0, 1) := by decide +kernel
theorem dX2_leastFrom_65 : decode cX2_leastFrom 65 = .ok (.iload_n 1, 1) := by decide +kernel
theorem dX2_leastFrom_66 : decode cX2_leastFrom 66 = .ok (.iconst 1, 1) := by decide +kernel
theorem dX2_leastFrom_67 : decode cX2_leastFrom 67 = .ok (.iload 4, 2) := by decide +kernel
theorem dX2_leastFrom_69 : decode cX2_leastFrom 69 = .ok (.ishl, 1) := by decide +kernel
theorem dX2_leastFrom_70 : decode cX2_leastFrom 70 = .ok (.ior, 1) := by decide +kernel
theorem dX2_leastFrom_71 : decode cX2_leastFrom 71 = .ok (.iload_n 2, 1) := by decide +kernel
theorem dX2_leastFrom_72 : decode cX2_leastFrom 72 = .ok (.iconst 1, 1) := by decide +kernel
theorem dX2_leastFrom_73 : decode cX2_leastFrom 73 = .ok (.iadd, 1) := by decide +kernel
theorem dX2_leastFrom_74 : decode cX2_leastFrom 74 = .ok (.invokestatic 70, 3) := by decide +kernel
theorem dX2_leastFrom_77 : decode cX2_leastFrom 77 = .ok (.iadd, 1) := by decide +kernel
theorem dX2_leastFrom_78 : decode cX2_leastFrom 78 = .ok (.invokestatic 38, 3) := by decide +kernel
theorem dX2_leastFrom_81 : decode cX2_leastFrom 81 = .ok (.istore_n 3, 1) := by decide +kernel
theorem dX2_leastFrom_82 : decode cX2_leastFrom 82 = .ok (.iinc 4 1, 3) := by decide +kernel
theorem dX2_leastFrom_85 : decode cX2_leastFrom 85 = .ok (.goto (-52), 3) := by decide +kernel
theorem dX2_leastFrom_88 : decode cX2_leastFrom 88 = .ok (.aload_n 0, 1) := by decide +kernel
theorem dX2_leastFrom_89 : decode cX2_leastFrom 89 = .ok (.getfield 21, 3) := by decide +kernel
theorem dX2_leastFrom_92 : decode cX2_leastFrom 92 = .ok (.iload_n 1, 1) := by decide +kernel
theorem dX2_leastFrom_93 : decode cX2_leastFrom 93 = .ok (.iload_n 3, 1) := by decide +kernel
theorem dX2_leastFrom_94 : decode cX2_leastFrom 94 = .ok (.iastore, 1) := by decide +kernel
theorem dX2_leastFrom_95 : decode cX2_leastFrom 95 = .ok (.iload_n 3, 1) := by decide +kernel
theorem dX2_leastFrom_96 : decode cX2_leastFrom 96 = .ok (.ireturn, 1) := by decide +kernel
theorem dX2_leastNext_0 : decode cX2_leastNext 0 = .ok (.aload_n 0, 1) := by decide +kernel
theorem dX2_leastNext_1 : decode cX2_leastNext 1 = .ok (.iload_n 1, 1) := by decide +kernel
theorem dX2_leastNext_2 : decode cX2_leastNext 2 = .ok (.iload_n 2, 1) := by decide +kernel
theorem dX2_leastNext_3 : decode cX2_leastNext 3 = .ok (.invokestatic 70, 3) := by decide +kernel
theorem dX2_leastNext_6 : decode cX2_leastNext 6 = .ok (.istore_n 3, 1) := by decide +kernel
theorem dX2_leastNext_7 : decode cX2_leastNext 7 = .ok (.iconst 0, 1) := by decide +kernel
theorem dX2_leastNext_8 : decode cX2_leastNext 8 = .ok (.istore 4, 2) := by decide +kernel
theorem dX2_leastNext_10 : decode cX2_leastNext 10 = .ok (.iload 4, 2) := by decide +kernel
theorem dX2_leastNext_12 : decode cX2_leastNext 12 = .ok (.bipush 8, 2) := by decide +kernel
theorem dX2_leastNext_14 : decode cX2_leastNext 14 = .ok (.if_icmp .ge 53, 3) := by decide +kernel
theorem dX2_leastNext_17 : decode cX2_leastNext 17 = .ok (.aload_n 0, 1) := by decide +kernel
theorem dX2_leastNext_18 : decode cX2_leastNext 18 = .ok (.iload_n 1, 1) := by decide +kernel
theorem dX2_leastNext_19 : decode cX2_leastNext 19 = .ok (.iload_n 2, 1) := by decide +kernel
theorem dX2_leastNext_20 : decode cX2_leastNext 20 = .ok (.iload 4, 2) := by decide +kernel
theorem dX2_leastNext_22 : decode cX2_leastNext 22 = .ok (.invokevirtual 81, 3) := by decide +kernel
theorem dX2_leastNext_25 : decode cX2_leastNext 25 = .ok (.ifCond .eq 36, 3) := by decide +kernel
theorem dX2_leastNext_28 : decode cX2_leastNext 28 = .ok (.aload_n 0, 1) := by decide +kernel
theorem dX2_leastNext_29 : decode cX2_leastNext 29 = .ok (.getfield 18, 3) := by decide +kernel
theorem dX2_leastNext_32 : decode cX2_leastNext 32 = .ok (.bipush 8, 2) := by decide +kernel
theorem dX2_leastNext_34 : decode cX2_leastNext 34 = .ok (.iload_n 2, 1) := by decide +kernel
theorem dX2_leastNext_35 : decode cX2_leastNext 35 = .ok (.imul, 1) := by decide +kernel
theorem dX2_leastNext_36 : decode cX2_leastNext 36 = .ok (.iload 4, 2) := by decide +kernel
theorem dX2_leastNext_38 : decode cX2_leastNext 38 = .ok (.iadd, 1) := by decide +kernel
theorem dX2_leastNext_39 : decode cX2_leastNext 39 = .ok (.iaload, 1) := by decide +kernel
theorem dX2_leastNext_40 : decode cX2_leastNext 40 = .ok (.aload_n 0, 1) := by decide +kernel
theorem dX2_leastNext_41 : decode cX2_leastNext 41 = .ok (.iload_n 1, 1) := by decide +kernel
theorem dX2_leastNext_42 : decode cX2_leastNext 42 = .ok (.iconst 1, 1) := by decide +kernel
theorem dX2_leastNext_43 : decode cX2_leastNext 43 = .ok (.iload 4, 2) := by decide +kernel
theorem dX2_leastNext_45 : decode cX2_leastNext 45 = .ok (.ishl, 1) := by decide +kernel
theorem dX2_leastNext_46 : decode cX2_leastNext 46 = .ok (.ior, 1) := by decide +kernel
theorem dX2_leastNext_47 : decode cX2_leastNext 47 = .ok (.iload_n 2, 1) := by decide +kernel
theorem dX2_leastNext_48 : decode cX2_leastNext 48 = .ok (.iconst 1, 1) := by decide +kernel
theorem dX2_leastNext_49 : decode cX2_leastNext 49 = .ok (.iadd, 1) := by decide +kernel
theorem dX2_leastNext_50 : decode cX2_leastNext 50 = .ok (.invokestatic 70, 3) := by decide +kernel
theorem dX2_leastNext_53 : decode cX2_leastNext 53 = .ok (.iadd, 1) := by decide +kernel
theorem dX2_leastNext_54 : decode cX2_leastNext 54 = .ok (.iload_n 3, 1) := by decide +kernel
theorem dX2_leastNext_55 : decode cX2_leastNext 55 = .ok (.if_icmp .ne 6, 3) := by decide +kernel
theorem dX2_leastNext_58 : decode cX2_leastNext 58 = .ok (.iload 4, 2) := by decide +kernel
theorem dX2_leastNext_60 : decode cX2_leastNext 60 = .ok (.ireturn, 1) := by decide +kernel
theorem dX2_leastNext_61 : decode cX2_leastNext 61 = .ok (.iinc 4 1, 3) := by decide +kernel
theorem dX2_leastNext_64 : decode cX2_leastNext 64 = .ok (.goto (-54), 3) := by decide +kernel
theorem dX2_leastNext_67 : decode cX2_leastNext 67 = .ok (.iconst 0, 1) := by decide +kernel
theorem dX2_leastNext_68 : decode cX2_leastNext 68 = .ok (.ireturn, 1) := by decide +kernel
theorem dX2_isFree_0 : decode cX2_isFree 0 = .ok (.iload_n 1, 1) := by decide +kernel
theorem dX2_isFree_1 : decode cX2_isFree 1 = .ok (.iload_n 3, 1) := by decide +kernel
theorem dX2_isFree_2 : decode cX2_isFree 2 = .ok (.ishr, 1) := by decide +kernel
theorem dX2_isFree_3 : decode cX2_isFree 3 = .ok (.iconst 1, 1) := by decide +kernel
theorem dX2_isFree_4 : decode cX2_isFree 4 = .ok (.iand, 1) := by decide +kernel
theorem dX2_isFree_5 : decode cX2_isFree 5 = .ok (.ifCond .ne 23, 3) := by decide +kernel
theorem dX2_isFree_8 : decode cX2_isFree 8 = .ok (.aload_n 0, 1) := by decide +kernel
theorem dX2_isFree_9 : decode cX2_isFree 9 = .ok (.getfield 18, 3) := by decide +kernel
theorem dX2_isFree_12 : decode cX2_isFree 12 = .ok (.bipush 8, 2) := by decide +kernel
theorem dX2_isFree_14 : decode cX2_isFree 14 = .ok (.iload_n 2, 1) := by decide +kernel
theorem dX2_isFree_15 : decode cX2_isFree 15 = .ok (.imul, 1) := by decide +kernel
theorem dX2_isFree_16 : decode cX2_isFree 16 = .ok (.iload_n 3, 1) := by decide +kernel
theorem dX2_isFree_17 : decode cX2_isFree 17 = .ok (.iadd, 1) := by decide +kernel
theorem dX2_isFree_18 : decode cX2_isFree 18 = .ok (.iaload, 1) := by decide +kernel
theorem dX2_isFree_19 : decode cX2_isFree 19 = .ok (.ldc 63, 2) := by decide +kernel
theorem dX2_isFree_21 : decode cX2_isFree 21 = .ok (.if_icmp .ge 7, 3) := by decide +kernel
theorem dX2_isFree_24 : decode cX2_isFree 24 = .ok (.iconst 1, 1) := by decide +kernel
theorem dX2_isFree_25 : decode cX2_isFree 25 = .ok (.goto 4, 3) := by decide +kernel
theorem dX2_isFree_28 : decode cX2_isFree 28 = .ok (.iconst 0, 1) := by decide +kernel
theorem dX2_isFree_29 : decode cX2_isFree 29 = .ok (.ireturn, 1) := by decide +kernel
theorem dX3_init_0 : decode cX3_init 0 = .ok (.aload_n 0, 1) := by decide +kernel
theorem dX3_init_1 : decode cX3_init 1 = .ok (.invokespecial 3, 3) := by decide +kernel
theorem dX3_init_4 : decode cX3_init 4 = .ok (.aload_n 0, 1) := by decide +kernel
theorem dX3_init_5 : decode cX3_init 5 = .ok (.bipush 8, 2) := by decide +kernel
theorem dX3_init_7 : decode cX3_init 7 = .ok (.newarray .int, 2) := by decide +kernel
theorem dX3_init_9 : decode cX3_init 9 = .ok (.putfield 9, 3) := by decide +kernel
theorem dX3_init_12 : decode cX3_init 12 = .ok (.aload_n 0, 1) := by decide +kernel
theorem dX3_init_13 : decode cX3_init 13 = .ok (.bipush 8, 2) := by decide +kernel
theorem dX3_init_15 : decode cX3_init 15 = .ok (.newarray .int, 2) := by decide +kernel
theorem dX3_init_17 : decode cX3_init 17 = .ok (.putfield 15, 3) := by decide +kernel
theorem dX3_init_20 : decode cX3_init 20 = .ok (.aload_n 0, 1) := by decide +kernel
theorem dX3_init_21 : decode cX3_init 21 = .ok (.bipush 8, 2) := by decide +kernel
theorem dX3_init_23 : decode cX3_init 23 = .ok (.newarray .int, 2) := by decide +kernel
theorem dX3_init_25 : decode cX3_init 25 = .ok (.putfield 18, 3) := by decide +kernel
theorem dX3_init_28 : decode cX3_init 28 = .ok (.aload_n 0, 1) := by decide +kernel
theorem dX3_init_29 : decode cX3_init 29 = .ok (.bipush 8, 2) := by decide +kernel
theorem dX3_init_31 : decode cX3_init 31 = .ok (.newarray .int, 2) := by decide +kernel
theorem dX3_init_33 : decode cX3_init 33 = .ok (.putfield 21, 3) := by decide +kernel
theorem dX3_init_36 : decode cX3_init 36 = .ok (.aload_n 0, 1) := by decide +kernel
theorem dX3_init_37 : decode cX3_init 37 = .ok (.bipush 8, 2) := by decide +kernel
theorem dX3_init_39 : decode cX3_init 39 = .ok (.newarray .int, 2) := by decide +kernel
theorem dX3_init_41 : decode cX3_init 41 = .ok (.putfield 24, 3) := by decide +kernel
theorem dX3_init_44 : decode cX3_init 44 = .ok (.aload_n 0, 1) := by decide +kernel
theorem dX3_init_45 : decode cX3_init 45 = .ok (.bipush 8, 2) := by decide +kernel
theorem dX3_init_47 : decode cX3_init 47 = .ok (.newarray .int, 2) := by decide +kernel
theorem dX3_init_49 : decode cX3_init 49 = .ok (.putfield 27, 3) := by decide +kernel
theorem dX3_init_52 : decode cX3_init 52 = .ok (.aload_n 0, 1) := by decide +kernel
theorem dX3_init_53 : decode cX3_init 53 = .ok (.bipush 8, 2) := by decide +kernel
theorem dX3_init_55 : decode cX3_init 55 = .ok (.newarray .int, 2) := by decide +kernel
theorem dX3_init_57 : decode cX3_init 57 = .ok (.putfield 30, 3) := by decide +kernel
theorem dX3_init_60 : decode cX3_init 60 = .ok (.aload_n 0, 1) := by decide +kernel
theorem dX3_init_61 : decode cX3_init 61 = .ok (.iconst 0, 1) := by decide +kernel
theorem dX3_init_62 : decode cX3_init 62 = .ok (.putfield 33, 3) := by decide +kernel
theorem dX3_init_65 : decode cX3_init 65 = .ok (.aload_n 0, 1) := by decide +kernel
theorem dX3_init_66 : decode cX3_init 66 = .ok (.iconst 0, 1) := by decide +kernel
theorem dX3_init_67 : decode cX3_init 67 = .ok (.putfield 37, 3) := by decide +kernel
theorem dX3_init_70 : decode cX3_init 70 = .ok (.aload_n 0, 1) := by decide +kernel
theorem dX3_init_71 : decode cX3_init 71 = .ok (.iconst 0, 1) := by decide +kernel
theorem dX3_init_72 : decode cX3_init 72 = .ok (.putfield 40, 3) := by decide +kernel
theorem dX3_init_75 : decode cX3_init 75 = .ok (.aload_n 0, 1) := by decide +kernel
theorem dX3_init_76 : decode cX3_init 76 = .ok (.iconst 0, 1) := by decide +kernel
theorem dX3_init_77 : decode cX3_init 77 = .ok (.putfield 43, 3) := by decide +kernel
theorem dX3_init_80 : decode cX3_init 80 = .ok (.aload_n 0, 1) := by decide +kernel
theorem dX3_init_81 : decode cX3_init 81 = .ok (.iconst 0, 1) := by decide +kernel
theorem dX3_init_82 : decode cX3_init 82 = .ok (.putfield 46, 3) := by decide +kernel
theorem dX3_init_85 : decode cX3_init 85 = .ok (.aload_n 0, 1) := by decide +kernel
theorem dX3_init_86 : decode cX3_init 86 = .ok (.iconst (-1), 1) := by decide +kernel
theorem dX3_init_87 : decode cX3_init 87 = .ok (.putfield 49, 3) := by decide +kernel
theorem dX3_init_90 : decode cX3_init 90 = .ok (.return_, 1) := by decide +kernel
theorem dX3_begin_0 : decode cX3_begin 0 = .ok (.aload_n 0, 1) := by decide +kernel
theorem dX3_begin_1 : decode cX3_begin 1 = .ok (.aload_n 1, 1) := by decide +kernel
theorem dX3_begin_2 : decode cX3_begin 2 = .ok (.getfield 52, 3) := by decide +kernel
theorem dX3_begin_5 : decode cX3_begin 5 = .ok (.putfield 33, 3) := by decide +kernel
theorem dX3_begin_8 : decode cX3_begin 8 = .ok (.aload_n 0, 1) := by decide +kernel
theorem dX3_begin_9 : decode cX3_begin 9 = .ok (.iconst 0, 1) := by decide +kernel
theorem dX3_begin_10 : decode cX3_begin 10 = .ok (.putfield 37, 3) := by decide +kernel
theorem dX3_begin_13 : decode cX3_begin 13 = .ok (.iconst 0, 1) := by decide +kernel
theorem dX3_begin_14 : decode cX3_begin 14 = .ok (.istore 4, 2) := by decide +kernel
theorem dX3_begin_16 : decode cX3_begin 16 = .ok (.iload 4, 2) := by decide +kernel
theorem dX3_begin_18 : decode cX3_begin 18 = .ok (.aload_n 0, 1) := by decide +kernel
theorem dX3_begin_19 : decode cX3_begin 19 = .ok (.getfield 33, 3) := by decide +kernel
theorem dX3_begin_22 : decode cX3_begin 22 = .ok (.if_icmp .ge 113, 3) := by decide +kernel
theorem dX3_begin_25 : decode cX3_begin 25 = .ok (.iload 4, 2) := by decide +kernel
theorem dX3_begin_27 : decode cX3_begin 27 = .ok (.iload_n 2, 1) := by decide +kernel
theorem dX3_begin_28 : decode cX3_begin 28 = .ok (.if_icmp .ne 7, 3) := by decide +kernel
theorem dX3_begin_31 : decode cX3_begin 31 = .ok (.iload_n 3, 1) := by decide +kernel
theorem dX3_begin_32 : decode cX3_begin 32 = .ok (.goto 15, 3) := by decide +kernel
theorem dX3_begin_35 : decode cX3_begin 35 = .ok (.iload 4, 2) := by decide +kernel
theorem dX3_begin_37 : decode cX3_begin 37 = .ok (.iload_n 3, 1) := by decide +kernel
theorem dX3_begin_38 : decode cX3_begin 38 = .ok (.if_icmp .ne 7, 3) := by decide +kernel
theorem dX3_begin_41 : decode cX3_begin 41 = .ok (.iload_n 2, 1) := by decide +kernel
theorem dX3_begin_42 : decode cX3_begin 42 = .ok (.goto 5, 3) := by decide +kernel
theorem dX3_begin_45 : decode cX3_begin 45 = .ok (.iload 4, 2) := by decide +kernel
theorem dX3_begin_47 : decode cX3_begin 47 = .ok (.istore 5, 2) := by decide +kernel
theorem dX3_begin_49 : decode cX3_begin 49 = .ok (.aload_n 0, 1) := by decide +kernel
theorem dX3_begin_50 : decode cX3_begin 50 = .ok (.getfield 9, 3) := by decide +kernel
theorem dX3_begin_53 : decode cX3_begin 53 = .ok (.iload 4, 2) := by decide +kernel
theorem dX3_begin_55 : decode cX3_begin 55 = .ok (.aload_n 1, 1) := by decide +kernel
theorem dX3_begin_56 : decode cX3_begin 56 = .ok (.getfield 55, 3) := by decide +kernel
theorem dX3_begin_59 : decode cX3_begin 59 = .ok (.iload 5, 2) := by decide +kernel
theorem dX3_begin_61 : decode cX3_begin 61 = .ok (.iaload, 1) := by decide +kernel
theorem dX3_begin_62 : decode cX3_begin 62 = .ok (.iastore, 1) := by decide +kernel
theorem dX3_begin_63 : decode cX3_begin 63 = .ok (.aload_n 0, 1) := by decide +kernel
theorem dX3_begin_64 : decode cX3_begin 64 = .ok (.getfield 15, 3) := by decide +kernel
theorem dX3_begin_67 : decode cX3_begin 67 = .ok (.iload 4, 2) := by decide +kernel
theorem dX3_begin_69 : decode cX3_begin 69 = .ok (.aload_n 1, 1) := by decide +kernel
theorem dX3_begin_70 : decode cX3_begin 70 = .ok (.getfield 56, 3) := by decide +kernel
theorem dX3_begin_73 : decode cX3_begin 73 = .ok (.iload 5, 2) := by decide +kernel
theorem dX3_begin_75 : decode cX3_begin 75 = .ok (.iaload, 1) := by decide +kernel
theorem dX3_begin_76 : decode cX3_begin 76 = .ok (.iastore, 1) := by decide +kernel
theorem dX3_begin_77 : decode cX3_begin 77 = .ok (.aload_n 0, 1) := by decide +kernel
theorem dX3_begin_78 : decode cX3_begin 78 = .ok (.getfield 18, 3) := by decide +kernel
theorem dX3_begin_81 : decode cX3_begin 81 = .ok (.iload 4, 2) := by decide +kernel
theorem dX3_begin_83 : decode cX3_begin 83 = .ok (.iload 4, 2) := by decide +kernel
theorem dX3_begin_85 : decode cX3_begin 85 = .ok (.iastore, 1) := by decide +kernel
theorem dX3_begin_86 : decode cX3_begin 86 = .ok (.aload_n 0, 1) := by decide +kernel
theorem dX3_begin_87 : decode cX3_begin 87 = .ok (.getfield 21, 3) := by decide +kernel
theorem dX3_begin_90 : decode cX3_begin 90 = .ok (.iload 4, 2) := by decide +kernel
theorem dX3_begin_92 : decode cX3_begin 92 = .ok (.aload_n 1, 1) := by decide +kernel
theorem dX3_begin_93 : decode cX3_begin 93 = .ok (.getfield 59, 3) := by decide +kernel
theorem dX3_begin_96 : decode cX3_begin 96 = .ok (.iload 5, 2) := by decide +kernel
theorem dX3_begin_98 : decode cX3_begin 98 = .ok (.iaload, 1) := by decide +kernel
theorem dX3_begin_99 : decode cX3_begin 99 = .ok (.iastore, 1) := by decide +kernel
theorem dX3_begin_100 : decode cX3_begin 100 = .ok (.aload_n 0, 1) := by decide +kernel
theorem dX3_begin_101 : decode cX3_begin 101 = .ok (.getfield 24, 3) := by decide +kernel
theorem dX3_begin_104 : decode cX3_begin 104 = .ok (.iload 4, 2) := by decide +kernel
theorem dX3_begin_106 : decode cX3_begin 106 = .ok (.iconst 0, 1) := by decide +kernel
theorem dX3_begin_107 : decode cX3_begin 107 = .ok (.iastore, 1) := by decide +kernel
theorem dX3_begin_108 : decode cX3_begin 108 = .ok (.aload_n 0, 1) := by decide +kernel
theorem dX3_begin_109 : decode cX3_begin 109 = .ok (.dup, 1) := by decide +kernel
theorem dX3_begin_110 : decode cX3_begin 110 = .ok (.getfield 37, 3) := by decide +kernel
theorem dX3_begin_113 : decode cX3_begin 113 = .ok (.aload_n 1, 1) := by decide +kernel
theorem dX3_begin_114 : decode cX3_begin 114 = .ok (.getfield 60, 3) := by decide +kernel
theorem dX3_begin_117 : decode cX3_begin 117 = .ok (.iload 5, 2) := by decide +kernel
theorem dX3_begin_119 : decode cX3_begin 119 = .ok (.ishr, 1) := by decide +kernel
theorem dX3_begin_120 : decode cX3_begin 120 = .ok (.iconst 1, 1) := by decide +kernel
theorem dX3_begin_121 : decode cX3_begin 121 = .ok (.iand, 1) := by decide +kernel
theorem dX3_begin_122 : decode cX3_begin 122 = .ok (.iload 4, 2) := by decide +kernel
theorem dX3_begin_124 : decode cX3_begin 124 = .ok (.ishl, 1) := by decide +kernel
theorem dX3_begin_125 : decode cX3_begin 125 = .ok (.ior, 1) := by decide +kernel
theorem dX3_begin_126 : decode cX3_begin 126 = .ok (.putfield 37, 3) := by decide +kernel
theorem dX3_begin_129 : decode cX3_begin 129 = .ok (.iinc 4 1, 3) := by decide +kernel
theorem dX3_begin_132 : decode cX3_begin 132 = .ok (.goto (-116), 3) := by decide +kernel
theorem dX3_begin_135 : decode cX3_begin 135 = .ok (.aload_n 0, 1) := by decide +kernel
theorem dX3_begin_136 : decode cX3_begin 136 = .ok (.getfield 27, 3) := by decide +kernel
theorem dX3_begin_139 : decode cX3_begin 139 = .ok (.iconst 0, 1) := by decide +kernel
theorem dX3_begin_140 : decode cX3_begin 140 = .ok (.invokestatic 61, 3) := by decide +kernel
theorem dX3_begin_143 : decode cX3_begin 143 = .ok (.aload_n 0, 1) := by decide +kernel
theorem dX3_begin_144 : decode cX3_begin 144 = .ok (.getfield 30, 3) := by decide +kernel
theorem dX3_begin_147 : decode cX3_begin 147 = .ok (.iconst 0, 1) := by decide +kernel
theorem dX3_begin_148 : decode cX3_begin 148 = .ok (.invokestatic 61, 3) := by decide +kernel
theorem dX3_begin_151 : decode cX3_begin 151 = .ok (.aload_n 0, 1) := by decide +kernel
theorem dX3_begin_152 : decode cX3_begin 152 = .ok (.iconst 1, 1) := by decide +kernel
theorem dX3_begin_153 : decode cX3_begin 153 = .ok (.aload_n 0, 1) := by decide +kernel
theorem dX3_begin_154 : decode cX3_begin 154 = .ok (.getfield 33, 3) := by decide +kernel
theorem dX3_begin_157 : decode cX3_begin 157 = .ok (.ishl, 1) := by decide +kernel
theorem dX3_begin_158 : decode cX3_begin 158 = .ok (.iconst 1, 1) := by decide +kernel
theorem dX3_begin_159 : decode cX3_begin 159 = .ok (.isub, 1) := by decide +kernel
theorem dX3_begin_160 : decode cX3_begin 160 = .ok (.putfield 40, 3) := by decide +kernel
theorem dX3_begin_163 : decode cX3_begin 163 = .ok (.aload_n 0, 1) := by decide +kernel
theorem dX3_begin_164 : decode cX3_begin 164 = .ok (.iconst 0, 1) := by decide +kernel
theorem dX3_begin_165 : decode cX3_begin 165 = .ok (.putfield 43, 3) := by decide +kernel
theorem dX3_begin_168 : decode cX3_begin 168 = .ok (.aload_n 0, 1) := by decide +kernel
theorem dX3_begin_169 : decode cX3_begin 169 = .ok (.iconst 0, 1) := by decide +kernel
theorem dX3_begin_170 : decode cX3_begin 170 = .ok (.putfield 46, 3) := by decide +kernel
theorem dX3_begin_173 : decode cX3_begin 173 = .ok (.aload_n 0, 1) := by decide +kernel
theorem dX3_begin_174 : decode cX3_begin 174 = .ok (.iconst (-1), 1) := by decide +kernel
theorem dX3_begin_175 : decode cX3_begin 175 = .ok (.putfield 49, 3) := by decide +kernel
theorem dX3_begin_178 : decode cX3_begin 178 = .ok (.return_, 1) := by decide +kernel
theorem dX3_become_0 : decode cX3_become 0 = .ok (.aload_n 1, 1) := by decide +kernel
theorem dX3_become_1 : decode cX3_become 1 = .ok (.getfield 9, 3) := by decide +kernel
theorem dX3_become_4 : decode cX3_become 4 = .ok (.iconst 0, 1) := by decide +kernel
theorem dX3_become_5 : decode cX3_become 5 = .ok (.aload_n 0, 1) := by decide +kernel
theorem dX3_become_6 : decode cX3_become 6 = .ok (.getfield 9, 3) := by decide +kernel
theorem dX3_become_9 : decode cX3_become 9 = .ok (.iconst 0, 1) := by decide +kernel
theorem dX3_become_10 : decode cX3_become 10 = .ok (.bipush 8, 2) := by decide +kernel
theorem dX3_become_12 : decode cX3_become 12 = .ok (.invokestatic 67, 3) := by decide +kernel
theorem dX3_become_15 : decode cX3_become 15 = .ok (.aload_n 1, 1) := by decide +kernel
theorem dX3_become_16 : decode cX3_become 16 = .ok (.getfield 15, 3) := by decide +kernel
theorem dX3_become_19 : decode cX3_become 19 = .ok (.iconst 0, 1) := by decide +kernel
theorem dX3_become_20 : decode cX3_become 20 = .ok (.aload_n 0, 1) := by decide +kernel
theorem dX3_become_21 : decode cX3_become 21 = .ok (.getfield 15, 3) := by decide +kernel
theorem dX3_become_24 : decode cX3_become 24 = .ok (.iconst 0, 1) := by decide +kernel
theorem dX3_become_25 : decode cX3_become 25 = .ok (.bipush 8, 2) := by decide +kernel
theorem dX3_become_27 : decode cX3_become 27 = .ok (.invokestatic 67, 3) := by decide +kernel
theorem dX3_become_30 : decode cX3_become 30 = .ok (.aload_n 1, 1) := by decide +kernel
theorem dX3_become_31 : decode cX3_become 31 = .ok (.getfield 18, 3) := by decide +kernel
theorem dX3_become_34 : decode cX3_become 34 = .ok (.iconst 0, 1) := by decide +kernel
theorem dX3_become_35 : decode cX3_become 35 = .ok (.aload_n 0, 1) := by decide +kernel
theorem dX3_become_36 : decode cX3_become 36 = .ok (.getfield 18, 3) := by decide +kernel
theorem dX3_become_39 : decode cX3_become 39 = .ok (.iconst 0, 1) := by decide +kernel
theorem dX3_become_40 : decode cX3_become 40 = .ok (.bipush 8, 2) := by decide +kernel
theorem dX3_become_42 : decode cX3_become 42 = .ok (.invokestatic 67, 3) := by decide +kernel
theorem dX3_become_45 : decode cX3_become 45 = .ok (.aload_n 1, 1) := by decide +kernel
theorem dX3_become_46 : decode cX3_become 46 = .ok (.getfield 21, 3) := by decide +kernel
theorem dX3_become_49 : decode cX3_become 49 = .ok (.iconst 0, 1) := by decide +kernel
theorem dX3_become_50 : decode cX3_become 50 = .ok (.aload_n 0, 1) := by decide +kernel
theorem dX3_become_51 : decode cX3_become 51 = .ok (.getfield 21, 3) := by decide +kernel
theorem dX3_become_54 : decode cX3_become 54 = .ok (.iconst 0, 1) := by decide +kernel
theorem dX3_become_55 : decode cX3_become 55 = .ok (.bipush 8, 2) := by decide +kernel
theorem dX3_become_57 : decode cX3_become 57 = .ok (.invokestatic 67, 3) := by decide +kernel
theorem dX3_become_60 : decode cX3_become 60 = .ok (.aload_n 1, 1) := by decide +kernel
theorem dX3_become_61 : decode cX3_become 61 = .ok (.getfield 24, 3) := by decide +kernel
theorem dX3_become_64 : decode cX3_become 64 = .ok (.iconst 0, 1) := by decide +kernel
theorem dX3_become_65 : decode cX3_become 65 = .ok (.aload_n 0, 1) := by decide +kernel
theorem dX3_become_66 : decode cX3_become 66 = .ok (.getfield 24, 3) := by decide +kernel
theorem dX3_become_69 : decode cX3_become 69 = .ok (.iconst 0, 1) := by decide +kernel
theorem dX3_become_70 : decode cX3_become 70 = .ok (.bipush 8, 2) := by decide +kernel
theorem dX3_become_72 : decode cX3_become 72 = .ok (.invokestatic 67, 3) := by decide +kernel
theorem dX3_become_75 : decode cX3_become 75 = .ok (.aload_n 1, 1) := by decide +kernel
theorem dX3_become_76 : decode cX3_become 76 = .ok (.getfield 27, 3) := by decide +kernel
theorem dX3_become_79 : decode cX3_become 79 = .ok (.iconst 0, 1) := by decide +kernel
theorem dX3_become_80 : decode cX3_become 80 = .ok (.aload_n 0, 1) := by decide +kernel
theorem dX3_become_81 : decode cX3_become 81 = .ok (.getfield 27, 3) := by decide +kernel
theorem dX3_become_84 : decode cX3_become 84 = .ok (.iconst 0, 1) := by decide +kernel
theorem dX3_become_85 : decode cX3_become 85 = .ok (.bipush 8, 2) := by decide +kernel
theorem dX3_become_87 : decode cX3_become 87 = .ok (.invokestatic 67, 3) := by decide +kernel
theorem dX3_become_90 : decode cX3_become 90 = .ok (.aload_n 1, 1) := by decide +kernel
theorem dX3_become_91 : decode cX3_become 91 = .ok (.getfield 30, 3) := by decide +kernel
theorem dX3_become_94 : decode cX3_become 94 = .ok (.iconst 0, 1) := by decide +kernel
theorem dX3_become_95 : decode cX3_become 95 = .ok (.aload_n 0, 1) := by decide +kernel
theorem dX3_become_96 : decode cX3_become 96 = .ok (.getfield 30, 3) := by decide +kernel
theorem dX3_become_99 : decode cX3_become 99 = .ok (.iconst 0, 1) := by decide +kernel
theorem dX3_become_100 : decode cX3_become 100 = .ok (.bipush 8, 2) := by decide +kernel
theorem dX3_become_102 : decode cX3_become 102 = .ok (.invokestatic 67, 3) := by decide +kernel
theorem dX3_become_105 : decode cX3_become 105 = .ok (.aload_n 0, 1) := by decide +kernel
theorem dX3_become_106 : decode cX3_become 106 = .ok (.aload_n 1, 1) := by decide +kernel
theorem dX3_become_107 : decode cX3_become 107 = .ok (.getfield 33, 3) := by decide +kernel
theorem dX3_become_110 : decode cX3_become 110 = .ok (.putfield 33, 3) := by decide +kernel
theorem dX3_become_113 : decode cX3_become 113 = .ok (.aload_n 0, 1) := by decide +kernel
theorem dX3_become_114 : decode cX3_become 114 = .ok (.aload_n 1, 1) := by decide +kernel
theorem dX3_become_115 : decode cX3_become 115 = .ok (.getfield 37, 3) := by decide +kernel
theorem dX3_become_118 : decode cX3_become 118 = .ok (.putfield 37, 3) := by decide +kernel
theorem dX3_become_121 : decode cX3_become 121 = .ok (.aload_n 0, 1) := by decide +kernel
theorem dX3_become_122 : decode cX3_become 122 = .ok (.aload_n 1, 1) := by decide +kernel
theorem dX3_become_123 : decode cX3_become 123 = .ok (.getfield 40, 3) := by decide +kernel
theorem dX3_become_126 : decode cX3_become 126 = .ok (.putfield 40, 3) := by decide +kernel
theorem dX3_become_129 : decode cX3_become 129 = .ok (.aload_n 0, 1) := by decide +kernel
theorem dX3_become_130 : decode cX3_become 130 = .ok (.aload_n 1, 1) := by decide +kernel
theorem dX3_become_131 : decode cX3_become 131 = .ok (.getfield 43, 3) := by decide +kernel
theorem dX3_become_134 : decode cX3_become 134 = .ok (.putfield 43, 3) := by decide +kernel
theorem dX3_become_137 : decode cX3_become 137 = .ok (.aload_n 0, 1) := by decide +kernel
theorem dX3_become_138 : decode cX3_become 138 = .ok (.aload_n 1, 1) := by decide +kernel
theorem dX3_become_139 : decode cX3_become 139 = .ok (.getfield 46, 3) := by decide +kernel
theorem dX3_become_142 : decode cX3_become 142 = .ok (.putfield 46, 3) := by decide +kernel
theorem dX3_become_145 : decode cX3_become 145 = .ok (.aload_n 0, 1) := by decide +kernel
theorem dX3_become_146 : decode cX3_become 146 = .ok (.aload_n 1, 1) := by decide +kernel
theorem dX3_become_147 : decode cX3_become 147 = .ok (.getfield 49, 3) := by decide +kernel
theorem dX3_become_150 : decode cX3_become 150 = .ok (.putfield 49, 3) := by decide +kernel
theorem dX3_become_153 : decode cX3_become 153 = .ok (.return_, 1) := by decide +kernel
theorem dX3_passDay_0 : decode cX3_passDay 0 = .ok (.aload_n 0, 1) := by decide +kernel
theorem dX3_passDay_1 : decode cX3_passDay 1 = .ok (.aload_n 1, 1) := by decide +kernel
theorem dX3_passDay_2 : decode cX3_passDay 2 = .ok (.getfield 73, 3) := by decide +kernel
theorem dX3_passDay_5 : decode cX3_passDay 5 = .ok (.iload_n 2, 1) := by decide +kernel
theorem dX3_passDay_6 : decode cX3_passDay 6 = .ok (.invokevirtual 79, 3) := by decide +kernel
theorem dX3_passDay_9 : decode cX3_passDay 9 = .ok (.aload_n 1, 1) := by decide +kernel
theorem dX3_passDay_10 : decode cX3_passDay 10 = .ok (.aload_n 0, 1) := by decide +kernel
theorem dX3_passDay_11 : decode cX3_passDay 11 = .ok (.getfield 49, 3) := by decide +kernel
theorem dX3_passDay_14 : decode cX3_passDay 14 = .ok (.invokevirtual 83, 3) := by decide +kernel
theorem dX3_passDay_17 : decode cX3_passDay 17 = .ok (.ifCond .eq 15, 3) := by decide +kernel
theorem dX3_passDay_20 : decode cX3_passDay 20 = .ok (.aload_n 0, 1) := by decide +kernel
theorem dX3_passDay_21 : decode cX3_passDay 21 = .ok (.aload_n 0, 1) := by decide +kernel
theorem dX3_passDay_22 : decode cX3_passDay 22 = .ok (.aload_n 1, 1) := by decide +kernel
theorem dX3_passDay_23 : decode cX3_passDay 23 = .ok (.getfield 87, 3) := by decide +kernel
theorem dX3_passDay_26 : decode cX3_passDay 26 = .ok (.invokevirtual 90, 3) := by decide +kernel
theorem dX3_passDay_29 : decode cX3_passDay 29 = .ok (.invokevirtual 94, 3) := by decide +kernel
theorem dX3_passDay_32 : decode cX3_passDay 32 = .ok (.return_, 1) := by decide +kernel
theorem dX3_passUntilHeat_0 : decode cX3_passUntilHeat 0 = .ok (.aload_n 0, 1) := by decide +kernel
theorem dX3_passUntilHeat_1 : decode cX3_passUntilHeat 1 = .ok (.dup, 1) := by decide +kernel
theorem dX3_passUntilHeat_2 : decode cX3_passUntilHeat 2 = .ok (.getfield 49, 3) := by decide +kernel
theorem dX3_passUntilHeat_5 : decode cX3_passUntilHeat 5 = .ok (.iconst 1, 1) := by decide +kernel
theorem dX3_passUntilHeat_6 : decode cX3_passUntilHeat 6 = .ok (.iadd, 1) := by decide +kernel
theorem dX3_passUntilHeat_7 : decode cX3_passUntilHeat 7 = .ok (.putfield 49, 3) := by decide +kernel
theorem dX3_passUntilHeat_10 : decode cX3_passUntilHeat 10 = .ok (.iconst 0, 1) := by decide +kernel
theorem dX3_passUntilHeat_11 : decode cX3_passUntilHeat 11 = .ok (.istore_n 3, 1) := by decide +kernel
theorem dX3_passUntilHeat_12 : decode cX3_passUntilHeat 12 = .ok (.iload_n 3, 1) := by decide +kernel
theorem dX3_passUntilHeat_13 : decode cX3_passUntilHeat 13 = .ok (.aload_n 1, 1) := by decide +kernel
theorem dX3_passUntilHeat_14 : decode cX3_passUntilHeat 14 = .ok (.getfield 98, 3) := by decide +kernel
theorem dX3_passUntilHeat_17 : decode cX3_passUntilHeat 17 = .ok (.if_icmp .ge 64, 3) := by decide +kernel
theorem dX3_passUntilHeat_20 : decode cX3_passUntilHeat 20 = .ok (.aload_n 1, 1) := by decide +kernel
theorem dX3_passUntilHeat_21 : decode cX3_passUntilHeat 21 = .ok (.getfield 101, 3) := by decide +kernel
theorem dX3_passUntilHeat_24 : decode cX3_passUntilHeat 24 = .ok (.iload_n 3, 1) := by decide +kernel
theorem dX3_passUntilHeat_25 : decode cX3_passUntilHeat 25 = .ok (.iaload, 1) := by decide +kernel
theorem dX3_passUntilHeat_26 : decode cX3_passUntilHeat 26 = .ok (.aload_n 0, 1) := by decide +kernel
theorem dX3_passUntilHeat_27 : decode cX3_passUntilHeat 27 = .ok (.getfield 49, 3) := by decide +kernel
theorem dX3_passUntilHeat_30 : decode cX3_passUntilHeat 30 = .ok (.if_icmp .ne 45, 3) := by decide +kernel
theorem dX3_passUntilHeat_33 : decode cX3_passUntilHeat 33 = .ok (.iload_n 3, 1) := by decide +kernel
theorem dX3_passUntilHeat_34 : decode cX3_passUntilHeat 34 = .ok (.iload_n 2, 1) := by decide +kernel
theorem dX3_passUntilHeat_35 : decode cX3_passUntilHeat 35 = .ok (.if_icmp .eq 40, 3) := by decide +kernel
theorem dX3_passUntilHeat_38 : decode cX3_passUntilHeat 38 = .ok (.aload_n 0, 1) := by decide +kernel
theorem dX3_passUntilHeat_39 : decode cX3_passUntilHeat 39 = .ok (.aload_n 1, 1) := by decide +kernel
theorem dX3_passUntilHeat_40 : decode cX3_passUntilHeat 40 = .ok (.getfield 103, 3) := by decide +kernel
theorem dX3_passUntilHeat_43 : decode cX3_passUntilHeat 43 = .ok (.iload_n 3, 1) := by decide +kernel
theorem dX3_passUntilHeat_44 : decode cX3_passUntilHeat 44 = .ok (.iaload, 1) := by decide +kernel
theorem dX3_passUntilHeat_45 : decode cX3_passUntilHeat 45 = .ok (.aload_n 1, 1) := by decide +kernel
theorem dX3_passUntilHeat_46 : decode cX3_passUntilHeat 46 = .ok (.getfield 106, 3) := by decide +kernel
theorem dX3_passUntilHeat_49 : decode cX3_passUntilHeat 49 = .ok (.iload_n 3, 1) := by decide +kernel
theorem dX3_passUntilHeat_50 : decode cX3_passUntilHeat 50 = .ok (.iaload, 1) := by decide +kernel
theorem dX3_passUntilHeat_51 : decode cX3_passUntilHeat 51 = .ok (.aload_n 1, 1) := by decide +kernel
theorem dX3_passUntilHeat_52 : decode cX3_passUntilHeat 52 = .ok (.getfield 109, 3) := by decide +kernel
theorem dX3_passUntilHeat_55 : decode cX3_passUntilHeat 55 = .ok (.iload_n 3, 1) := by decide +kernel
theorem dX3_passUntilHeat_56 : decode cX3_passUntilHeat 56 = .ok (.iaload, 1) := by decide +kernel
theorem dX3_passUntilHeat_57 : decode cX3_passUntilHeat 57 = .ok (.invokevirtual 112, 3) := by decide +kernel
theorem dX3_passUntilHeat_60 : decode cX3_passUntilHeat 60 = .ok (.ifCond .eq 15, 3) := by decide +kernel
theorem dX3_passUntilHeat_63 : decode cX3_passUntilHeat 63 = .ok (.aload_n 0, 1) := by decide +kernel
theorem dX3_passUntilHeat_64 : decode cX3_passUntilHeat 64 = .ok (.dup, 1) := by decide +kernel
theorem dX3_passUntilHeat_65 : decode cX3_passUntilHeat 65 = .ok (.getfield 46, 3) := by decide +kernel
theorem dX3_passUntilHeat_68 : decode cX3_passUntilHeat 68 = .ok (.iconst 1, 1) := by decide +kernel
theorem dX3_passUntilHeat_69 : decode cX3_passUntilHeat 69 = .ok (.iload_n 3, 1) := by decide +kernel
theorem dX3_passUntilHeat_70 : decode cX3_passUntilHeat 70 = .ok (.ishl, 1) := by decide +kernel
theorem dX3_passUntilHeat_71 : decode cX3_passUntilHeat 71 = .ok (.ior, 1) := by decide +kernel
theorem dX3_passUntilHeat_72 : decode cX3_passUntilHeat 72 = .ok (.putfield 46, 3) := by decide +kernel
theorem dX3_passUntilHeat_75 : decode cX3_passUntilHeat 75 = .ok (.iinc 3 1, 3) := by decide +kernel
theorem dX3_passUntilHeat_78 : decode cX3_passUntilHeat 78 = .ok (.goto (-66), 3) := by decide +kernel
theorem dX3_passUntilHeat_81 : decode cX3_passUntilHeat 81 = .ok (.aload_n 0, 1) := by decide +kernel
theorem dX3_passUntilHeat_82 : decode cX3_passUntilHeat 82 = .ok (.invokevirtual 116, 3) := by decide +kernel
theorem dX3_passUntilHeat_85 : decode cX3_passUntilHeat 85 = .ok (.return_, 1) := by decide +kernel
theorem dX3_doAct_0 : decode cX3_doAct 0 = .ok (.iload_n 2, 1) := by decide +kernel
theorem dX3_doAct_1 : decode cX3_doAct 1 = .ok (.aload_n 0, 1) := by decide +kernel
theorem dX3_doAct_2 : decode cX3_doAct 2 = .ok (.getfield 33, 3) := by decide +kernel
theorem dX3_doAct_5 : decode cX3_doAct 5 = .ok (.invokestatic 119, 3) := by decide +kernel
theorem dX3_doAct_8 : decode cX3_doAct 8 = .ok (.ifCond .ne 5, 3) := by decide +kernel
theorem dX3_doAct_11 : decode cX3_doAct 11 = .ok (.iconst 0, 1) := by decide +kernel
theorem dX3_doAct_12 : decode cX3_doAct 12 = .ok (.ireturn, 1) := by decide +kernel
theorem dX3_doAct_13 : decode cX3_doAct 13 = .ok (.iconst 0, 1) := by decide +kernel
theorem dX3_doAct_14 : decode cX3_doAct 14 = .ok (.istore 4, 2) := by decide +kernel
theorem dX3_doAct_16 : decode cX3_doAct 16 = .ok (.iload_n 1, 1) := by decide +kernel
theorem dX3_doAct_17 : decode cX3_doAct 17 = .ok (.tableswitch 148 0 3 #[31, 58, 100, 119], 31) := by decide +kernel
theorem dX3_doAct_48 : decode cX3_doAct 48 = .ok (.aload_n 0, 1) := by decide +kernel
theorem dX3_doAct_49 : decode cX3_doAct 49 = .ok (.getfield 24, 3) := by decide +kernel
theorem dX3_doAct_52 : decode cX3_doAct 52 = .ok (.iload_n 2, 1) := by decide +kernel
theorem dX3_doAct_53 : decode cX3_doAct 53 = .ok (.iaload, 1) := by decide +kernel
theorem dX3_doAct_54 : decode cX3_doAct 54 = .ok (.iload_n 3, 1) := by decide +kernel
theorem dX3_doAct_55 : decode cX3_doAct 55 = .ok (.if_icmp .eq 7, 3) := by decide +kernel
theorem dX3_doAct_58 : decode cX3_doAct 58 = .ok (.iconst 1, 1) := by decide +kernel
theorem dX3_doAct_59 : decode cX3_doAct 59 = .ok (.goto 4, 3) := by decide +kernel
theorem dX3_doAct_62 : decode cX3_doAct 62 = .ok (.iconst 0, 1) := by decide +kernel
theorem dX3_doAct_63 : decode cX3_doAct 63 = .ok (.istore 4, 2) := by decide +kernel
theorem dX3_doAct_65 : decode cX3_doAct 65 = .ok (.aload_n 0, 1) := by decide +kernel
theorem dX3_doAct_66 : decode cX3_doAct 66 = .ok (.getfield 24, 3) := by decide +kernel
theorem dX3_doAct_69 : decode cX3_doAct 69 = .ok (.iload_n 2, 1) := by decide +kernel
theorem dX3_doAct_70 : decode cX3_doAct 70 = .ok (.iload_n 3, 1) := by decide +kernel
theorem dX3_doAct_71 : decode cX3_doAct 71 = .ok (.iastore, 1) := by decide +kernel
theorem dX3_doAct_72 : decode cX3_doAct 72 = .ok (.goto 93, 3) := by decide +kernel
theorem dX3_doAct_75 : decode cX3_doAct 75 = .ok (.iload_n 2, 1) := by decide +kernel
theorem dX3_doAct_76 : decode cX3_doAct 76 = .ok (.iload_n 3, 1) := by decide +kernel
theorem dX3_doAct_77 : decode cX3_doAct 77 = .ok (.if_icmp .eq 23, 3) := by decide +kernel
theorem dX3_doAct_80 : decode cX3_doAct 80 = .ok (.aload_n 0, 1) := by decide +kernel
theorem dX3_doAct_81 : decode cX3_doAct 81 = .ok (.iload_n 2, 1) := by decide +kernel
theorem dX3_doAct_82 : decode cX3_doAct 82 = .ok (.invokevirtual 123, 3) := by decide +kernel
theorem dX3_doAct_85 : decode cX3_doAct 85 = .ok (.ifCond .eq 15, 3) := by decide +kernel
theorem dX3_doAct_88 : decode cX3_doAct 88 = .ok (.aload_n 0, 1) := by decide +kernel
theorem dX3_doAct_89 : decode cX3_doAct 89 = .ok (.iload_n 3, 1) := by decide +kernel
theorem dX3_doAct_90 : decode cX3_doAct 90 = .ok (.invokevirtual 123, 3) := by decide +kernel
theorem dX3_doAct_93 : decode cX3_doAct 93 = .ok (.ifCond .eq 7, 3) := by decide +kernel
theorem dX3_doAct_96 : decode cX3_doAct 96 = .ok (.iconst 1, 1) := by decide +kernel
theorem dX3_doAct_97 : decode cX3_doAct 97 = .ok (.goto 4, 3) := by decide +kernel
theorem dX3_doAct_100 : decode cX3_doAct 100 = .ok (.iconst 0, 1) := by decide +kernel
theorem dX3_doAct_101 : decode cX3_doAct 101 = .ok (.istore 4, 2) := by decide +kernel
theorem dX3_doAct_103 : decode cX3_doAct 103 = .ok (.iload 4, 2) := by decide +kernel
theorem dX3_doAct_105 : decode cX3_doAct 105 = .ok (.ifCond .eq 60, 3) := by decide +kernel
theorem dX3_doAct_108 : decode cX3_doAct 108 = .ok (.aload_n 0, 1) := by decide +kernel
theorem dX3_doAct_109 : decode cX3_doAct 109 = .ok (.iload_n 2, 1) := by decide +kernel
theorem dX3_doAct_110 : decode cX3_doAct 110 = .ok (.iload_n 3, 1) := by decide +kernel
theorem dX3_doAct_111 : decode cX3_doAct 111 = .ok (.invokevirtual 126, 3) := by decide +kernel
theorem dX3_doAct_114 : decode cX3_doAct 114 = .ok (.goto 51, 3) := by decide +kernel
theorem dX3_doAct_117 : decode cX3_doAct 117 = .ok (.aload_n 0, 1) := by decide +kernel
theorem dX3_doAct_118 : decode cX3_doAct 118 = .ok (.iload_n 2, 1) := by decide +kernel
theorem dX3_doAct_119 : decode cX3_doAct 119 = .ok (.invokevirtual 123, 3) := by decide +kernel
theorem dX3_doAct_122 : decode cX3_doAct 122 = .ok (.istore 4, 2) := by decide +kernel
theorem dX3_doAct_124 : decode cX3_doAct 124 = .ok (.aload_n 0, 1) := by decide +kernel
theorem dX3_doAct_125 : decode cX3_doAct 125 = .ok (.iload_n 2, 1) := by decide +kernel
theorem dX3_doAct_126 : decode cX3_doAct 126 = .ok (.aload_n 0, 1) := by decide +kernel
theorem dX3_doAct_127 : decode cX3_doAct 127 = .ok (.getfield 27, 3) := by decide +kernel
theorem dX3_doAct_130 : decode cX3_doAct 130 = .ok (.invokevirtual 130, 3) := by decide +kernel
theorem dX3_doAct_133 : decode cX3_doAct 133 = .ok (.goto 32, 3) := by decide +kernel
theorem dX3_doAct_136 : decode cX3_doAct 136 = .ok (.aload_n 0, 1) := by decide +kernel
theorem dX3_doAct_137 : decode cX3_doAct 137 = .ok (.getfield 21, 3) := by decide +kernel
theorem dX3_doAct_140 : decode cX3_doAct 140 = .ok (.iload_n 2, 1) := by decide +kernel
theorem dX3_doAct_141 : decode cX3_doAct 141 = .ok (.iaload, 1) := by decide +kernel
theorem dX3_doAct_142 : decode cX3_doAct 142 = .ok (.bipush 9, 2) := by decide +kernel
theorem dX3_doAct_144 : decode cX3_doAct 144 = .ok (.if_icmp .eq 7, 3) := by decide +kernel
theorem dX3_doAct_147 : decode cX3_doAct 147 = .ok (.iconst 1, 1) := by decide +kernel
theorem dX3_doAct_148 : decode cX3_doAct 148 = .ok (.goto 4, 3) := by decide +kernel
theorem dX3_doAct_151 : decode cX3_doAct 151 = .ok (.iconst 0, 1) := by decide +kernel
theorem dX3_doAct_152 : decode cX3_doAct 152 = .ok (.istore 4, 2) := by decide +kernel
theorem dX3_doAct_154 : decode cX3_doAct 154 = .ok (.aload_n 0, 1) := by decide +kernel
theorem dX3_doAct_155 : decode cX3_doAct 155 = .ok (.getfield 21, 3) := by decide +kernel
theorem dX3_doAct_158 : decode cX3_doAct 158 = .ok (.iload_n 2, 1) := by decide +kernel
theorem dX3_doAct_159 : decode cX3_doAct 159 = .ok (.bipush 9, 2) := by decide +kernel
theorem dX3_doAct_161 : decode cX3_doAct 161 = .ok (.iastore, 1) := by decide +kernel
theorem dX3_doAct_162 : decode cX3_doAct 162 = .ok (.goto 3, 3) := by decide +kernel
theorem dX3_doAct_165 : decode cX3_doAct 165 = .ok (.iload 4, 2) := by decide +kernel
theorem dX3_doAct_167 : decode cX3_doAct 167 = .ok (.ireturn, 1) := by decide +kernel
theorem dX3_pourInto_0 : decode cX3_pourInto 0 = .ok (.iconst 0, 1) := by decide +kernel
theorem dX3_pourInto_1 : decode cX3_pourInto 1 = .ok (.istore_n 3, 1) := by decide +kernel
theorem dX3_pourInto_2 : decode cX3_pourInto 2 = .ok (.iload_n 3, 1) := by decide +kernel
theorem dX3_pourInto_3 : decode cX3_pourInto 3 = .ok (.aload_n 0, 1) := by decide +kernel
theorem dX3_pourInto_4 : decode cX3_pourInto 4 = .ok (.getfield 33, 3) := by decide +kernel
theorem dX3_pourInto_7 : decode cX3_pourInto 7 = .ok (.if_icmp .ge 104, 3) := by decide +kernel
theorem dX3_pourInto_10 : decode cX3_pourInto 10 = .ok (.aload_n 0, 1) := by decide +kernel
theorem dX3_pourInto_11 : decode cX3_pourInto 11 = .ok (.getfield 18, 3) := by decide +kernel
theorem dX3_pourInto_14 : decode cX3_pourInto 14 = .ok (.iload_n 3, 1) := by decide +kernel
theorem dX3_pourInto_15 : decode cX3_pourInto 15 = .ok (.iaload, 1) := by decide +kernel
theorem dX3_pourInto_16 : decode cX3_pourInto 16 = .ok (.iload_n 1, 1) := by decide +kernel
theorem dX3_pourInto_17 : decode cX3_pourInto 17 = .ok (.if_icmp .eq 6, 3) := by decide +kernel
theorem dX3_pourInto_20 : decode cX3_pourInto 20 = .ok (.goto 85, 3) := by decide +kernel
theorem dX3_pourInto_23 : decode cX3_pourInto 23 = .ok (.aload_n 0, 1) := by decide +kernel
theorem dX3_pourInto_24 : decode cX3_pourInto 24 = .ok (.getfield 18, 3) := by decide +kernel
theorem dX3_pourInto_27 : decode cX3_pourInto 27 = .ok (.iload_n 3, 1) := by decide +kernel
theorem dX3_pourInto_28 : decode cX3_pourInto 28 = .ok (.iload_n 2, 1) := by decide +kernel
theorem dX3_pourInto_29 : decode cX3_pourInto 29 = .ok (.iastore, 1) := by decide +kernel
theorem dX3_pourInto_30 : decode cX3_pourInto 30 = .ok (.iconst 0, 1) := by decide +kernel
theorem dX3_pourInto_31 : decode cX3_pourInto 31 = .ok (.istore 4, 2) := by decide +kernel
theorem dX3_pourInto_33 : decode cX3_pourInto 33 = .ok (.iload 4, 2) := by decide +kernel
theorem dX3_pourInto_35 : decode cX3_pourInto 35 = .ok (.aload_n 0, 1) := by decide +kernel
theorem dX3_pourInto_36 : decode cX3_pourInto 36 = .ok (.getfield 33, 3) := by decide +kernel
theorem dX3_pourInto_39 : decode cX3_pourInto 39 = .ok (.if_icmp .ge 66, 3) := by decide +kernel
theorem dX3_pourInto_42 : decode cX3_pourInto 42 = .ok (.iload 4, 2) := by decide +kernel
theorem dX3_pourInto_44 : decode cX3_pourInto 44 = .ok (.iload_n 3, 1) := by decide +kernel
theorem dX3_pourInto_45 : decode cX3_pourInto 45 = .ok (.if_icmp .eq 54, 3) := by decide +kernel
theorem dX3_pourInto_48 : decode cX3_pourInto 48 = .ok (.aload_n 0, 1) := by decide +kernel
theorem dX3_pourInto_49 : decode cX3_pourInto 49 = .ok (.getfield 18, 3) := by decide +kernel
theorem dX3_pourInto_52 : decode cX3_pourInto 52 = .ok (.iload 4, 2) := by decide +kernel
theorem dX3_pourInto_54 : decode cX3_pourInto 54 = .ok (.iaload, 1) := by decide +kernel
theorem dX3_pourInto_55 : decode cX3_pourInto 55 = .ok (.iload_n 2, 1) := by decide +kernel
theorem dX3_pourInto_56 : decode cX3_pourInto 56 = .ok (.if_icmp .ne 43, 3) := by decide +kernel
theorem dX3_pourInto_59 : decode cX3_pourInto 59 = .ok (.aload_n 0, 1) := by decide +kernel
theorem dX3_pourInto_60 : decode cX3_pourInto 60 = .ok (.getfield 9, 3) := by decide +kernel
theorem dX3_pourInto_63 : decode cX3_pourInto 63 = .ok (.iload 4, 2) := by decide +kernel
theorem dX3_pourInto_65 : decode cX3_pourInto 65 = .ok (.iaload, 1) := by decide +kernel
theorem dX3_pourInto_66 : decode cX3_pourInto 66 = .ok (.aload_n 0, 1) := by decide +kernel
theorem dX3_pourInto_67 : decode cX3_pourInto 67 = .ok (.getfield 9, 3) := by decide +kernel
theorem dX3_pourInto_70 : decode cX3_pourInto 70 = .ok (.iload_n 3, 1) := by decide +kernel
theorem dX3_pourInto_71 : decode cX3_pourInto 71 = .ok (.iaload, 1) := by decide +kernel
theorem dX3_pourInto_72 : decode cX3_pourInto 72 = .ok (.if_icmp .ne 27, 3) := by decide +kernel
theorem dX3_pourInto_75 : decode cX3_pourInto 75 = .ok (.aload_n 0, 1) := by decide +kernel
theorem dX3_pourInto_76 : decode cX3_pourInto 76 = .ok (.getfield 15, 3) := by decide +kernel
theorem dX3_pourInto_79 : decode cX3_pourInto 79 = .ok (.iload_n 3, 1) := by decide +kernel
theorem dX3_pourInto_80 : decode cX3_pourInto 80 = .ok (.dup2, 1) := by decide +kernel
theorem dX3_pourInto_81 : decode cX3_pourInto 81 = .ok (.iaload, 1) := by decide +kernel
theorem dX3_pourInto_82 : decode cX3_pourInto 82 = .ok (.aload_n 0, 1) := by decide +kernel
theorem dX3_pourInto_83 : decode cX3_pourInto 83 = .ok (.getfield 15, 3) := by decide +kernel
theorem dX3_pourInto_86 : decode cX3_pourInto 86 = .ok (.iload 4, 2) := by decide +kernel
theorem dX3_pourInto_88 : decode cX3_pourInto 88 = .ok (.iaload, 1) := by decide +kernel
theorem dX3_pourInto_89 : decode cX3_pourInto 89 = .ok (.iadd, 1) := by decide +kernel
theorem dX3_pourInto_90 : decode cX3_pourInto 90 = .ok (.iastore, 1) := by decide +kernel
theorem dX3_pourInto_91 : decode cX3_pourInto 91 = .ok (.aload_n 0, 1) := by decide +kernel
theorem dX3_pourInto_92 : decode cX3_pourInto 92 = .ok (.getfield 15, 3) := by decide +kernel
theorem dX3_pourInto_95 : decode cX3_pourInto 95 = .ok (.iload 4, 2) := by decide +kernel
theorem dX3_pourInto_97 : decode cX3_pourInto 97 = .ok (.iconst 0, 1) := by decide +kernel
theorem dX3_pourInto_98 : decode cX3_pourInto 98 = .ok (.iastore, 1) := by decide +kernel
theorem dX3_pourInto_99 : decode cX3_pourInto 99 = .ok (.iinc 4 1, 3) := by decide +kernel
theorem dX3_pourInto_102 : decode cX3_pourInto 102 = .ok (.goto (-69), 3) := by decide +kernel
theorem dX3_pourInto_105 : decode cX3_pourInto 105 = .ok (.iinc 3 1, 3) := by decide +kernel
theorem dX3_pourInto_108 : decode cX3_pourInto 108 = .ok (.goto (-106), 3) := by decide +kernel
theorem dX3_pourInto_111 : decode cX3_pourInto 111 = .ok (.return_, 1) := by decide +kernel
theorem dX3_letGo_0 : decode cX3_letGo 0 = .ok (.aload_n 0, 1) := by decide +kernel
theorem dX3_letGo_1 : decode cX3_letGo 1 = .ok (.dup, 1) := by decide +kernel
theorem dX3_letGo_2 : decode cX3_letGo 2 = .ok (.getfield 40, 3) := by decide +kernel
theorem dX3_letGo_5 : decode cX3_letGo 5 = .ok (.iconst 1, 1) := by decide +kernel
theorem dX3_letGo_6 : decode cX3_letGo 6 = .ok (.iload_n 1, 1) := by decide +kernel
theorem dX3_letGo_7 : decode cX3_letGo 7 = .ok (.ishl, 1) := by decide +kernel
theorem dX3_letGo_8 : decode cX3_letGo 8 = .ok (.iconst (-1), 1) := by decide +kernel
theorem dX3_letGo_9 : decode cX3_letGo 9 = .ok (.ixor, 1) := by decide +kernel
theorem dX3_letGo_10 : decode cX3_letGo 10 = .ok (.iand, 1) := by decide +kernel
theorem dX3_letGo_11 : decode cX3_letGo 11 = .ok (.putfield 40, 3) := by decide +kernel
theorem dX3_letGo_14 : decode cX3_letGo 14 = .ok (.iconst 0, 1) := by decide +kernel
theorem dX3_letGo_15 : decode cX3_letGo 15 = .ok (.istore_n 3, 1) := by decide +kernel
theorem dX3_letGo_16 : decode cX3_letGo 16 = .ok (.iload_n 3, 1) := by decide +kernel
theorem dX3_letGo_17 : decode cX3_letGo 17 = .ok (.aload_n 0, 1) := by decide +kernel
theorem dX3_letGo_18 : decode cX3_letGo 18 = .ok (.getfield 33, 3) := by decide +kernel
theorem dX3_letGo_21 : decode cX3_letGo 21 = .ok (.if_icmp .ge 43, 3) := by decide +kernel
theorem dX3_letGo_24 : decode cX3_letGo 24 = .ok (.aload_n 0, 1) := by decide +kernel
theorem dX3_letGo_25 : decode cX3_letGo 25 = .ok (.getfield 18, 3) := by decide +kernel
theorem dX3_letGo_28 : decode cX3_letGo 28 = .ok (.iload_n 3, 1) := by decide +kernel
theorem dX3_letGo_29 : decode cX3_letGo 29 = .ok (.iaload, 1) := by decide +kernel
theorem dX3_letGo_30 : decode cX3_letGo 30 = .ok (.iload_n 1, 1) := by decide +kernel
theorem dX3_letGo_31 : decode cX3_letGo 31 = .ok (.if_icmp .ne 27, 3) := by decide +kernel
theorem dX3_letGo_34 : decode cX3_letGo 34 = .ok (.aload_n 2, 1) := by decide +kernel
theorem dX3_letGo_35 : decode cX3_letGo 35 = .ok (.aload_n 0, 1) := by decide +kernel
theorem dX3_letGo_36 : decode cX3_letGo 36 = .ok (.getfield 9, 3) := by decide +kernel
theorem dX3_letGo_39 : decode cX3_letGo 39 = .ok (.iload_n 3, 1) := by decide +kernel
theorem dX3_letGo_40 : decode cX3_letGo 40 = .ok (.iaload, 1) := by decide +kernel
theorem dX3_letGo_41 : decode cX3_letGo 41 = .ok (.dup2, 1) := by decide +kernel
theorem dX3_letGo_42 : decode cX3_letGo 42 = .ok (.iaload, 1) := by decide +kernel
theorem dX3_letGo_43 : decode cX3_letGo 43 = .ok (.aload_n 0, 1) := by decide +kernel
theorem dX3_letGo_44 : decode cX3_letGo 44 = .ok (.getfield 15, 3) := by decide +kernel
theorem dX3_letGo_47 : decode cX3_letGo 47 = .ok (.iload_n 3, 1) := by decide +kernel
theorem dX3_letGo_48 : decode cX3_letGo 48 = .ok (.iaload, 1) := by decide +kernel
theorem dX3_letGo_49 : decode cX3_letGo 49 = .ok (.iadd, 1) := by decide +kernel
theorem dX3_letGo_50 : decode cX3_letGo 50 = .ok (.iastore, 1) := by decide +kernel
theorem dX3_letGo_51 : decode cX3_letGo 51 = .ok (.aload_n 0, 1) := by decide +kernel
theorem dX3_letGo_52 : decode cX3_letGo 52 = .ok (.getfield 15, 3) := by decide +kernel
theorem dX3_letGo_55 : decode cX3_letGo 55 = .ok (.iload_n 3, 1) := by decide +kernel
theorem dX3_letGo_56 : decode cX3_letGo 56 = .ok (.iconst 0, 1) := by decide +kernel
theorem dX3_letGo_57 : decode cX3_letGo 57 = .ok (.iastore, 1) := by decide +kernel
theorem dX3_letGo_58 : decode cX3_letGo 58 = .ok (.iinc 3 1, 3) := by decide +kernel
theorem dX3_letGo_61 : decode cX3_letGo 61 = .ok (.goto (-45), 3) := by decide +kernel
theorem dX3_letGo_64 : decode cX3_letGo 64 = .ok (.return_, 1) := by decide +kernel
theorem dX3_leak_0 : decode cX3_leak 0 = .ok (.iconst 0, 1) := by decide +kernel
theorem dX3_leak_1 : decode cX3_leak 1 = .ok (.istore_n 1, 1) := by decide +kernel
theorem dX3_leak_2 : decode cX3_leak 2 = .ok (.iload_n 1, 1) := by decide +kernel
theorem dX3_leak_3 : decode cX3_leak 3 = .ok (.aload_n 0, 1) := by decide +kernel
theorem dX3_leak_4 : decode cX3_leak 4 = .ok (.getfield 33, 3) := by decide +kernel
theorem dX3_leak_7 : decode cX3_leak 7 = .ok (.if_icmp .ge 78, 3) := by decide +kernel
theorem dX3_leak_10 : decode cX3_leak 10 = .ok (.aload_n 0, 1) := by decide +kernel
theorem dX3_leak_11 : decode cX3_leak 11 = .ok (.getfield 15, 3) := by decide +kernel
theorem dX3_leak_14 : decode cX3_leak 14 = .ok (.iload_n 1, 1) := by decide +kernel
theorem dX3_leak_15 : decode cX3_leak 15 = .ok (.iaload, 1) := by decide +kernel
theorem dX3_leak_16 : decode cX3_leak 16 = .ok (.ifCond .ne 6, 3) := by decide +kernel
theorem dX3_leak_19 : decode cX3_leak 19 = .ok (.goto 60, 3) := by decide +kernel
theorem dX3_leak_22 : decode cX3_leak 22 = .ok (.aload_n 0, 1) := by decide +kernel
theorem dX3_leak_23 : decode cX3_leak 23 = .ok (.getfield 21, 3) := by decide +kernel
theorem dX3_leak_26 : decode cX3_leak 26 = .ok (.aload_n 0, 1) := by decide +kernel
theorem dX3_leak_27 : decode cX3_leak 27 = .ok (.getfield 18, 3) := by decide +kernel
theorem dX3_leak_30 : decode cX3_leak 30 = .ok (.iload_n 1, 1) := by decide +kernel
theorem dX3_leak_31 : decode cX3_leak 31 = .ok (.iaload, 1) := by decide +kernel
theorem dX3_leak_32 : decode cX3_leak 32 = .ok (.iaload, 1) := by decide +kernel
theorem dX3_leak_33 : decode cX3_leak 33 = .ok (.istore_n 2, 1) := by decide +kernel
theorem dX3_leak_34 : decode cX3_leak 34 = .ok (.aload_n 0, 1) := by decide +kernel
theorem dX3_leak_35 : decode cX3_leak 35 = .ok (.getfield 15, 3) := by decide +kernel
theorem dX3_leak_38 : decode cX3_leak 38 = .ok (.iload_n 1, 1) := by decide +kernel
theorem dX3_leak_39 : decode cX3_leak 39 = .ok (.iaload, 1) := by decide +kernel
theorem dX3_leak_40 : decode cX3_leak 40 = .ok (.bipush 10, 2) := by decide +kernel
theorem dX3_leak_42 : decode cX3_leak 42 = .ok (.iload_n 2, 1) := by decide +kernel
theorem dX3_leak_43 : decode cX3_leak 43 = .ok (.isub, 1) := by decide +kernel
theorem dX3_leak_44 : decode cX3_leak 44 = .ok (.imul, 1) := by decide +kernel
theorem dX3_leak_45 : decode cX3_leak 45 = .ok (.bipush 100, 2) := by decide +kernel
theorem dX3_leak_47 : decode cX3_leak 47 = .ok (.idiv, 1) := by decide +kernel
theorem dX3_leak_48 : decode cX3_leak 48 = .ok (.iload_n 2, 1) := by decide +kernel
theorem dX3_leak_49 : decode cX3_leak 49 = .ok (.ifCond .ne 7, 3) := by decide +kernel
theorem dX3_leak_52 : decode cX3_leak 52 = .ok (.iconst 1, 1) := by decide +kernel
theorem dX3_leak_53 : decode cX3_leak 53 = .ok (.goto 4, 3) := by decide +kernel
theorem dX3_leak_56 : decode cX3_leak 56 = .ok (.iconst 0, 1) := by decide +kernel
theorem dX3_leak_57 : decode cX3_leak 57 = .ok (.iadd, 1) := by decide +kernel
theorem dX3_leak_58 : decode cX3_leak 58 = .ok (.istore_n 3, 1) := by decide +kernel
theorem dX3_leak_59 : decode cX3_leak 59 = .ok (.aload_n 0, 1) := by decide +kernel
theorem dX3_leak_60 : decode cX3_leak 60 = .ok (.getfield 15, 3) := by decide +kernel
theorem dX3_leak_63 : decode cX3_leak 63 = .ok (.iload_n 1, 1) := by decide +kernel
theorem dX3_leak_64 : decode cX3_leak 64 = .ok (.dup2, 1) := by decide +kernel
theorem dX3_leak_65 : decode cX3_leak 65 = .ok (.iaload, 1) := by decide +kernel
theorem dX3_leak_66 : decode cX3_leak 66 = .ok (.iload_n 3, 1) := by decide +kernel
theorem dX3_leak_67 : decode cX3_leak 67 = .ok (.isub, 1) := by decide +kernel
theorem dX3_leak_68 : decode cX3_leak 68 = .ok (.iastore, 1) := by decide +kernel
theorem dX3_leak_69 : decode cX3_leak 69 = .ok (.aload_n 0, 1) := by decide +kernel
theorem dX3_leak_70 : decode cX3_leak 70 = .ok (.dup, 1) := by decide +kernel
theorem dX3_leak_71 : decode cX3_leak 71 = .ok (.getfield 43, 3) := by decide +kernel
theorem dX3_leak_74 : decode cX3_leak 74 = .ok (.iload_n 3, 1) := by decide +kernel
theorem dX3_leak_75 : decode cX3_leak 75 = .ok (.iadd, 1) := by decide +kernel
theorem dX3_leak_76 : decode cX3_leak 76 = .ok (.putfield 43, 3) := by decide +kernel
theorem dX3_leak_79 : decode cX3_leak 79 = .ok (.iinc 1 1, 3) := by decide +kernel
theorem dX3_leak_82 : decode cX3_leak 82 = .ok (.goto (-80), 3) := by decide +kernel
theorem dX3_leak_85 : decode cX3_leak 85 = .ok (.return_, 1) := by decide +kernel
theorem dX3_ripeBottles_0 : decode cX3_ripeBottles 0 = .ok (.iconst 0, 1) := by decide +kernel
theorem dX3_ripeBottles_1 : decode cX3_ripeBottles 1 = .ok (.istore_n 2, 1) := by decide +kernel
theorem dX3_ripeBottles_2 : decode cX3_ripeBottles 2 = .ok (.iconst 0, 1) := by decide +kernel
theorem dX3_ripeBottles_3 : decode cX3_ripeBottles 3 = .ok (.istore_n 3, 1) := by decide +kernel
theorem dX3_ripeBottles_4 : decode cX3_ripeBottles 4 = .ok (.iload_n 3, 1) := by decide +kernel
theorem dX3_ripeBottles_5 : decode cX3_ripeBottles 5 = .ok (.aload_n 0, 1) := by decide +kernel
theorem dX3_ripeBottles_6 : decode cX3_ripeBottles 6 = .ok (.getfield 33, 3) := by decide +kernel
theorem dX3_ripeBottles_9 : decode cX3_ripeBottles 9 = .ok (.if_icmp .ge 36, 3) := by decide +kernel
theorem dX3_ripeBottles_12 : decode cX3_ripeBottles 12 = .ok (.aload_n 0, 1) := by decide +kernel
theorem dX3_ripeBottles_13 : decode cX3_ripeBottles 13 = .ok (.getfield 37, 3) := by decide +kernel
theorem dX3_ripeBottles_16 : decode cX3_ripeBottles 16 = .ok (.iload_n 3, 1) := by decide +kernel
theorem dX3_ripeBottles_17 : decode cX3_ripeBottles 17 = .ok (.ishr, 1) := by decide +kernel
theorem dX3_ripeBottles_18 : decode cX3_ripeBottles 18 = .ok (.iconst 1, 1) := by decide +kernel
theorem dX3_ripeBottles_19 : decode cX3_ripeBottles 19 = .ok (.iand, 1) := by decide +kernel
theorem dX3_ripeBottles_20 : decode cX3_ripeBottles 20 = .ok (.iconst 1, 1) := by decide +kernel
theorem dX3_ripeBottles_21 : decode cX3_ripeBottles 21 = .ok (.if_icmp .ne 18, 3) := by decide +kernel
theorem dX3_ripeBottles_24 : decode cX3_ripeBottles 24 = .ok (.aload_n 0, 1) := by decide +kernel
theorem dX3_ripeBottles_25 : decode cX3_ripeBottles 25 = .ok (.iload_n 3, 1) := by decide +kernel
theorem dX3_ripeBottles_26 : decode cX3_ripeBottles 26 = .ok (.invokevirtual 134, 3) := by decide +kernel
theorem dX3_ripeBottles_29 : decode cX3_ripeBottles 29 = .ok (.iload_n 1, 1) := by decide +kernel
theorem dX3_ripeBottles_30 : decode cX3_ripeBottles 30 = .ok (.if_icmp .lt 9, 3) := by decide +kernel
theorem dX3_ripeBottles_33 : decode cX3_ripeBottles 33 = .ok (.iload_n 2, 1) := by decide +kernel
theorem dX3_ripeBottles_34 : decode cX3_ripeBottles 34 = .ok (.iconst 1, 1) := by decide +kernel
theorem dX3_ripeBottles_35 : decode cX3_ripeBottles 35 = .ok (.iload_n 3, 1) := by decide +kernel
theorem dX3_ripeBottles_36 : decode cX3_ripeBottles 36 = .ok (.ishl, 1) := by decide +kernel
theorem dX3_ripeBottles_37 : decode cX3_ripeBottles 37 = .ok (.ior, 1) := by decide +kernel
theorem dX3_ripeBottles_38 : decode cX3_ripeBottles 38 = .ok (.istore_n 2, 1) := by decide +kernel
theorem dX3_ripeBottles_39 : decode cX3_ripeBottles 39 = .ok (.iinc 3 1, 3) := by decide +kernel
theorem dX3_ripeBottles_42 : decode cX3_ripeBottles 42 = .ok (.goto (-38), 3) := by decide +kernel
theorem dX3_ripeBottles_45 : decode cX3_ripeBottles 45 = .ok (.iload_n 2, 1) := by decide +kernel
theorem dX3_ripeBottles_46 : decode cX3_ripeBottles 46 = .ok (.ireturn, 1) := by decide +kernel
theorem dX3_burstAll_0 : decode cX3_burstAll 0 = .ok (.iconst 0, 1) := by decide +kernel
theorem dX3_burstAll_1 : decode cX3_burstAll 1 = .ok (.istore_n 2, 1) := by decide +kernel
theorem dX3_burstAll_2 : decode cX3_burstAll 2 = .ok (.iload_n 2, 1) := by decide +kernel
theorem dX3_burstAll_3 : decode cX3_burstAll 3 = .ok (.aload_n 0, 1) := by decide +kernel
theorem dX3_burstAll_4 : decode cX3_burstAll 4 = .ok (.getfield 33, 3) := by decide +kernel
theorem dX3_burstAll_7 : decode cX3_burstAll 7 = .ok (.if_icmp .ge 27, 3) := by decide +kernel
theorem dX3_burstAll_10 : decode cX3_burstAll 10 = .ok (.iload_n 1, 1) := by decide +kernel
theorem dX3_burstAll_11 : decode cX3_burstAll 11 = .ok (.iload_n 2, 1) := by decide +kernel
theorem dX3_burstAll_12 : decode cX3_burstAll 12 = .ok (.ishr, 1) := by decide +kernel
theorem dX3_burstAll_13 : decode cX3_burstAll 13 = .ok (.iconst 1, 1) := by decide +kernel
theorem dX3_burstAll_14 : decode cX3_burstAll 14 = .ok (.iand, 1) := by decide +kernel
theorem dX3_burstAll_15 : decode cX3_burstAll 15 = .ok (.iconst 1, 1) := by decide +kernel
theorem dX3_burstAll_16 : decode cX3_burstAll 16 = .ok (.if_icmp .ne 12, 3) := by decide +kernel
theorem dX3_burstAll_19 : decode cX3_burstAll 19 = .ok (.aload_n 0, 1) := by decide +kernel
theorem dX3_burstAll_20 : decode cX3_burstAll 20 = .ok (.iload_n 2, 1) := by decide +kernel
theorem dX3_burstAll_21 : decode cX3_burstAll 21 = .ok (.aload_n 0, 1) := by decide +kernel
theorem dX3_burstAll_22 : decode cX3_burstAll 22 = .ok (.getfield 30, 3) := by decide +kernel
theorem dX3_burstAll_25 : decode cX3_burstAll 25 = .ok (.invokevirtual 130, 3) := by decide +kernel
theorem dX3_burstAll_28 : decode cX3_burstAll 28 = .ok (.iinc 2 1, 3) := by decide +kernel
theorem dX3_burstAll_31 : decode cX3_burstAll 31 = .ok (.goto (-29), 3) := by decide +kernel
theorem dX3_burstAll_34 : decode cX3_burstAll 34 = .ok (.return_, 1) := by decide +kernel
theorem dX3_isWhole_0 : decode cX3_isWhole 0 = .ok (.iload_n 1, 1) := by decide +kernel
theorem dX3_isWhole_1 : decode cX3_isWhole 1 = .ok (.ifCond .lt 27, 3) := by decide +kernel
theorem dX3_isWhole_4 : decode cX3_isWhole 4 = .ok (.iload_n 1, 1) := by decide +kernel
theorem dX3_isWhole_5 : decode cX3_isWhole 5 = .ok (.aload_n 0, 1) := by decide +kernel
theorem dX3_isWhole_6 : decode cX3_isWhole 6 = .ok (.getfield 33, 3) := by decide +kernel
theorem dX3_isWhole_9 : decode cX3_isWhole 9 = .ok (.if_icmp .ge 19, 3) := by decide +kernel
theorem dX3_isWhole_12 : decode cX3_isWhole 12 = .ok (.aload_n 0, 1) := by decide +kernel
theorem dX3_isWhole_13 : decode cX3_isWhole 13 = .ok (.getfield 40, 3) := by decide +kernel
theorem dX3_isWhole_16 : decode cX3_isWhole 16 = .ok (.iload_n 1, 1) := by decide +kernel
theorem dX3_isWhole_17 : decode cX3_isWhole 17 = .ok (.ishr, 1) := by decide +kernel
theorem dX3_isWhole_18 : decode cX3_isWhole 18 = .ok (.iconst 1, 1) := by decide +kernel
theorem dX3_isWhole_19 : decode cX3_isWhole 19 = .ok (.iand, 1) := by decide +kernel
theorem dX3_isWhole_20 : decode cX3_isWhole 20 = .ok (.iconst 1, 1) := by decide +kernel
theorem dX3_isWhole_21 : decode cX3_isWhole 21 = .ok (.if_icmp .ne 7, 3) := by decide +kernel
theorem dX3_isWhole_24 : decode cX3_isWhole 24 = .ok (.iconst 1, 1) := by decide +kernel
theorem dX3_isWhole_25 : decode cX3_isWhole 25 = .ok (.goto 4, 3) := by decide +kernel
theorem dX3_isWhole_28 : decode cX3_isWhole 28 = .ok (.iconst 0, 1) := by decide +kernel
theorem dX3_isWhole_29 : decode cX3_isWhole 29 = .ok (.ireturn, 1) := by decide +kernel
theorem dX3_muchOf_0 : decode cX3_muchOf 0 = .ok (.iconst 0, 1) := by decide +kernel
theorem dX3_muchOf_1 : decode cX3_muchOf 1 = .ok (.istore_n 3, 1) := by decide +kernel
theorem dX3_muchOf_2 : decode cX3_muchOf 2 = .ok (.iconst 0, 1) := by decide +kernel
theorem dX3_muchOf_3 : decode cX3_muchOf 3 = .ok (.istore 4, 2) := by decide +kernel
theorem dX3_muchOf_5 : decode cX3_muchOf 5 = .ok (.iload 4, 2) := by decide +kernel
theorem dX3_muchOf_7 : decode cX3_muchOf 7 = .ok (.aload_n 0, 1) := by decide +kernel
theorem dX3_muchOf_8 : decode cX3_muchOf 8 = .ok (.getfield 33, 3) := by decide +kernel
theorem dX3_muchOf_11 : decode cX3_muchOf 11 = .ok (.if_icmp .ge 41, 3) := by decide +kernel
theorem dX3_muchOf_14 : decode cX3_muchOf 14 = .ok (.aload_n 0, 1) := by decide +kernel
theorem dX3_muchOf_15 : decode cX3_muchOf 15 = .ok (.getfield 18, 3) := by decide +kernel
theorem dX3_muchOf_18 : decode cX3_muchOf 18 = .ok (.iload 4, 2) := by decide +kernel
theorem dX3_muchOf_20 : decode cX3_muchOf 20 = .ok (.iaload, 1) := by decide +kernel
theorem dX3_muchOf_21 : decode cX3_muchOf 21 = .ok (.iload_n 1, 1) := by decide +kernel
theorem dX3_muchOf_22 : decode cX3_muchOf 22 = .ok (.if_icmp .ne 24, 3) := by decide +kernel
theorem dX3_muchOf_25 : decode cX3_muchOf 25 = .ok (.aload_n 0, 1) := by decide +kernel
theorem dX3_muchOf_26 : decode cX3_muchOf 26 = .ok (.getfield 9, 3) := by decide +kernel
theorem dX3_muchOf_29 : decode cX3_muchOf 29 = .ok (.iload 4, 2) := by decide +kernel
theorem dX3_muchOf_31 : decode cX3_muchOf 31 = .ok (.iaload, 1) := by decide +kernel
theorem dX3_muchOf_32 : decode cX3_muchOf 32 = .ok (.iload_n 2, 1) := by decide +kernel
theorem dX3_muchOf_33 : decode cX3_muchOf 33 = .ok (.if_icmp .ne 13, 3) := by decide +kernel
theorem dX3_muchOf_36 : decode cX3_muchOf 36 = .ok (.iload_n 3, 1) := by decide +kernel
theorem dX3_muchOf_37 : decode cX3_muchOf 37 = .ok (.aload_n 0, 1) := by decide +kernel
theorem dX3_muchOf_38 : decode cX3_muchOf 38 = .ok (.getfield 15, 3) := by decide +kernel
theorem dX3_muchOf_41 : decode cX3_muchOf 41 = .ok (.iload 4, 2) := by decide +kernel
theorem dX3_muchOf_43 : decode cX3_muchOf 43 = .ok (.iaload, 1) := by decide +kernel
theorem dX3_muchOf_44 : decode cX3_muchOf 44 = .ok (.iadd, 1) := by decide +kernel
theorem dX3_muchOf_45 : decode cX3_muchOf 45 = .ok (.istore_n 3, 1) := by decide +kernel
theorem dX3_muchOf_46 : decode cX3_muchOf 46 = .ok (.iinc 4 1, 3) := by decide +kernel
theorem dX3_muchOf_49 : decode cX3_muchOf 49 = .ok (.goto (-44), 3) := by decide +kernel
theorem dX3_muchOf_52 : decode cX3_muchOf 52 = .ok (.iload_n 3, 1) := by decide +kernel
theorem dX3_muchOf_53 : decode cX3_muchOf 53 = .ok (.ireturn, 1) := by decide +kernel
theorem dX3_allIn_0 : decode cX3_allIn 0 = .ok (.iconst 0, 1) := by decide +kernel
theorem dX3_allIn_1 : decode cX3_allIn 1 = .ok (.istore_n 2, 1) := by decide +kernel
theorem dX3_allIn_2 : decode cX3_allIn 2 = .ok (.iconst 0, 1) := by decide +kernel
theorem dX3_allIn_3 : decode cX3_allIn 3 = .ok (.istore_n 3, 1) := by decide +kernel
theorem dX3_allIn_4 : decode cX3_allIn 4 = .ok (.iload_n 3, 1) := by decide +kernel
theorem dX3_allIn_5 : decode cX3_allIn 5 = .ok (.aload_n 0, 1) := by decide +kernel
theorem dX3_allIn_6 : decode cX3_allIn 6 = .ok (.getfield 33, 3) := by decide +kernel
theorem dX3_allIn_9 : decode cX3_allIn 9 = .ok (.if_icmp .ge 28, 3) := by decide +kernel
theorem dX3_allIn_12 : decode cX3_allIn 12 = .ok (.aload_n 0, 1) := by decide +kernel
theorem dX3_allIn_13 : decode cX3_allIn 13 = .ok (.getfield 18, 3) := by decide +kernel
theorem dX3_allIn_16 : decode cX3_allIn 16 = .ok (.iload_n 3, 1) := by decide +kernel
theorem dX3_allIn_17 : decode cX3_allIn 17 = .ok (.iaload, 1) := by decide +kernel
theorem dX3_allIn_18 : decode cX3_allIn 18 = .ok (.iload_n 1, 1) := by decide +kernel
theorem dX3_allIn_19 : decode cX3_allIn 19 = .ok (.if_icmp .ne 12, 3) := by decide +kernel
theorem dX3_allIn_22 : decode cX3_allIn 22 = .ok (.iload_n 2, 1) := by decide +kernel
theorem dX3_allIn_23 : decode cX3_allIn 23 = .ok (.aload_n 0, 1) := by decide +kernel
theorem dX3_allIn_24 : decode cX3_allIn 24 = .ok (.getfield 15, 3) := by decide +kernel
theorem dX3_allIn_27 : decode cX3_allIn 27 = .ok (.iload_n 3, 1) := by decide +kernel
theorem dX3_allIn_28 : decode cX3_allIn 28 = .ok (.iaload, 1) := by decide +kernel
theorem dX3_allIn_29 : decode cX3_allIn 29 = .ok (.iadd, 1) := by decide +kernel
theorem dX3_allIn_30 : decode cX3_allIn 30 = .ok (.istore_n 2, 1) := by decide +kernel
theorem dX3_allIn_31 : decode cX3_allIn 31 = .ok (.iinc 3 1, 3) := by decide +kernel
theorem dX3_allIn_34 : decode cX3_allIn 34 = .ok (.goto (-30), 3) := by decide +kernel
theorem dX3_allIn_37 : decode cX3_allIn 37 = .ok (.iload_n 2, 1) := by decide +kernel
theorem dX3_allIn_38 : decode cX3_allIn 38 = .ok (.ireturn, 1) := by decide +kernel
theorem dX3_voicesWith_0 : decode cX3_voicesWith 0 = .ok (.iconst 0, 1) := by decide +kernel
theorem dX3_voicesWith_1 : decode cX3_voicesWith 1 = .ok (.istore_n 2, 1) := by decide +kernel
theorem dX3_voicesWith_2 : decode cX3_voicesWith 2 = .ok (.iconst 0, 1) := by decide +kernel
theorem dX3_voicesWith_3 : decode cX3_voicesWith 3 = .ok (.istore_n 3, 1) := by decide +kernel
theorem dX3_voicesWith_4 : decode cX3_voicesWith 4 = .ok (.iload_n 3, 1) := by decide +kernel
theorem dX3_voicesWith_5 : decode cX3_voicesWith 5 = .ok (.aload_n 0, 1) := by decide +kernel
theorem dX3_voicesWith_6 : decode cX3_voicesWith 6 = .ok (.getfield 33, 3) := by decide +kernel
theorem dX3_voicesWith_9 : decode cX3_voicesWith 9 = .ok (.if_icmp .ge 49, 3) := by decide +kernel
theorem dX3_voicesWith_12 : decode cX3_voicesWith 12 = .ok (.aload_n 0, 1) := by decide +kernel
theorem dX3_voicesWith_13 : decode cX3_voicesWith 13 = .ok (.getfield 15, 3) := by decide +kernel
theorem dX3_voicesWith_16 : decode cX3_voicesWith 16 = .ok (.iload_n 3, 1) := by decide +kernel
theorem dX3_voicesWith_17 : decode cX3_voicesWith 17 = .ok (.iaload, 1) := by decide +kernel
theorem dX3_voicesWith_18 : decode cX3_voicesWith 18 = .ok (.ifCond .le 34, 3) := by decide +kernel
theorem dX3_voicesWith_21 : decode cX3_voicesWith 21 = .ok (.iload_n 1, 1) := by decide +kernel
theorem dX3_voicesWith_22 : decode cX3_voicesWith 22 = .ok (.iconst (-1), 1) := by decide +kernel
theorem dX3_voicesWith_23 : decode cX3_voicesWith 23 = .ok (.if_icmp .eq 18, 3) := by decide +kernel
theorem dX3_voicesWith_26 : decode cX3_voicesWith 26 = .ok (.aload_n 0, 1) := by decide +kernel
theorem dX3_voicesWith_27 : decode cX3_voicesWith 27 = .ok (.getfield 24, 3) := by decide +kernel
theorem dX3_voicesWith_30 : decode cX3_voicesWith 30 = .ok (.aload_n 0, 1) := by decide +kernel
theorem dX3_voicesWith_31 : decode cX3_voicesWith 31 = .ok (.getfield 18, 3) := by decide +kernel
theorem dX3_voicesWith_34 : decode cX3_voicesWith 34 = .ok (.iload_n 3, 1) := by decide +kernel
theorem dX3_voicesWith_35 : decode cX3_voicesWith 35 = .ok (.iaload, 1) := by decide +kernel
theorem dX3_voicesWith_36 : decode cX3_voicesWith 36 = .ok (.iaload, 1) := by decide +kernel
theorem dX3_voicesWith_37 : decode cX3_voicesWith 37 = .ok (.iload_n 1, 1) := by decide +kernel
theorem dX3_voicesWith_38 : decode cX3_voicesWith 38 = .ok (.if_icmp .ne 14, 3) := by decide +kernel
theorem dX3_voicesWith_41 : decode cX3_voicesWith 41 = .ok (.iload_n 2, 1) := by decide +kernel
theorem dX3_voicesWith_42 : decode cX3_voicesWith 42 = .ok (.iconst 1, 1) := by decide +kernel
theorem dX3_voicesWith_43 : decode cX3_voicesWith 43 = .ok (.aload_n 0, 1) := by decide +kernel
theorem dX3_voicesWith_44 : decode cX3_voicesWith 44 = .ok (.getfield 9, 3) := by decide +kernel
theorem dX3_voicesWith_47 : decode cX3_voicesWith 47 = .ok (.iload_n 3, 1) := by decide +kernel
theorem dX3_voicesWith_48 : decode cX3_voicesWith 48 = .ok (.iaload, 1) := by decide +kernel
theorem dX3_voicesWith_49 : decode cX3_voicesWith 49 = .ok (.ishl, 1) := by decide +kernel
theorem dX3_voicesWith_50 : decode cX3_voicesWith 50 = .ok (.ior, 1) := by decide +kernel
theorem dX3_voicesWith_51 : decode cX3_voicesWith 51 = .ok (.istore_n 2, 1) := by decide +kernel
theorem dX3_voicesWith_52 : decode cX3_voicesWith 52 = .ok (.iinc 3 1, 3) := by decide +kernel
theorem dX3_voicesWith_55 : decode cX3_voicesWith 55 = .ok (.goto (-51), 3) := by decide +kernel
theorem dX3_voicesWith_58 : decode cX3_voicesWith 58 = .ok (.iload_n 2, 1) := by decide +kernel
theorem dX3_voicesWith_59 : decode cX3_voicesWith 59 = .ok (.ireturn, 1) := by decide +kernel
theorem dX4_init_0 : decode cX4_init 0 = .ok (.aload_n 0, 1) := by decide +kernel
theorem dX4_init_1 : decode cX4_init 1 = .ok (.invokespecial 3, 3) := by decide +kernel
theorem dX4_init_4 : decode cX4_init 4 = .ok (.aload_n 0, 1) := by decide +kernel
theorem dX4_init_5 : decode cX4_init 5 = .ok (.bipush 8, 2) := by decide +kernel
theorem dX4_init_7 : decode cX4_init 7 = .ok (.newarray .int, 2) := by decide +kernel
theorem dX4_init_9 : decode cX4_init 9 = .ok (.putfield 9, 3) := by decide +kernel
theorem dX4_init_12 : decode cX4_init 12 = .ok (.aload_n 0, 1) := by decide +kernel
theorem dX4_init_13 : decode cX4_init 13 = .ok (.bipush 8, 2) := by decide +kernel
theorem dX4_init_15 : decode cX4_init 15 = .ok (.newarray .int, 2) := by decide +kernel
theorem dX4_init_17 : decode cX4_init 17 = .ok (.putfield 15, 3) := by decide +kernel
theorem dX4_init_20 : decode cX4_init 20 = .ok (.aload_n 0, 1) := by decide +kernel
theorem dX4_init_21 : decode cX4_init 21 = .ok (.bipush 8, 2) := by decide +kernel
theorem dX4_init_23 : decode cX4_init 23 = .ok (.newarray .int, 2) := by decide +kernel
theorem dX4_init_25 : decode cX4_init 25 = .ok (.putfield 18, 3) := by decide +kernel
theorem dX4_init_28 : decode cX4_init 28 = .ok (.aload_n 0, 1) := by decide +kernel
theorem dX4_init_29 : decode cX4_init 29 = .ok (.iconst 0, 1) := by decide +kernel
theorem dX4_init_30 : decode cX4_init 30 = .ok (.putfield 21, 3) := by decide +kernel
theorem dX4_init_33 : decode cX4_init 33 = .ok (.aload_n 0, 1) := by decide +kernel
theorem dX4_init_34 : decode cX4_init 34 = .ok (.iconst 0, 1) := by decide +kernel
theorem dX4_init_35 : decode cX4_init 35 = .ok (.putfield 25, 3) := by decide +kernel
theorem dX4_init_38 : decode cX4_init 38 = .ok (.return_, 1) := by decide +kernel
theorem dX4_takeFrom_0 : decode cX4_takeFrom 0 = .ok (.aload_n 0, 1) := by decide +kernel
theorem dX4_takeFrom_1 : decode cX4_takeFrom 1 = .ok (.aload_n 1, 1) := by decide +kernel
theorem dX4_takeFrom_2 : decode cX4_takeFrom 2 = .ok (.invokevirtual 28, 3) := by decide +kernel
theorem dX4_takeFrom_5 : decode cX4_takeFrom 5 = .ok (.iconst (-1), 1) := by decide +kernel
theorem dX4_takeFrom_6 : decode cX4_takeFrom 6 = .ok (.if_icmp .ne 20, 3) := by decide +kernel
theorem dX4_takeFrom_9 : decode cX4_takeFrom 9 = .ok (.bipush 8, 2) := by decide +kernel
theorem dX4_takeFrom_11 : decode cX4_takeFrom 11 = .ok (.aload_n 1, 1) := by decide +kernel
theorem dX4_takeFrom_12 : decode cX4_takeFrom 12 = .ok (.getfield 34, 3) := by decide +kernel
theorem dX4_takeFrom_15 : decode cX4_takeFrom 15 = .ok (.iconst 1, 1) := by decide +kernel
theorem dX4_takeFrom_16 : decode cX4_takeFrom 16 = .ok (.iadd, 1) := by decide +kernel
theorem dX4_takeFrom_17 : decode cX4_takeFrom 17 = .ok (.bipush 6, 2) := by decide +kernel
theorem dX4_takeFrom_19 : decode cX4_takeFrom 19 = .ok (.idiv, 1) := by decide +kernel
theorem dX4_takeFrom_20 : decode cX4_takeFrom 20 = .ok (.invokestatic 35, 3) := by decide +kernel
theorem dX4_takeFrom_23 : decode cX4_takeFrom 23 = .ok (.goto 4, 3) := by decide +kernel
theorem dX4_takeFrom_26 : decode cX4_takeFrom 26 = .ok (.iconst 0, 1) := by decide +kernel
theorem dX4_takeFrom_27 : decode cX4_takeFrom 27 = .ok (.putfield 25, 3) := by decide +kernel
theorem dX4_takeFrom_30 : decode cX4_takeFrom 30 = .ok (.aload_n 0, 1) := by decide +kernel
theorem dX4_takeFrom_31 : decode cX4_takeFrom 31 = .ok (.iconst 0, 1) := by decide +kernel
theorem dX4_takeFrom_32 : decode cX4_takeFrom 32 = .ok (.putfield 21, 3) := by decide +kernel
theorem dX4_takeFrom_35 : decode cX4_takeFrom 35 = .ok (.iconst 0, 1) := by decide +kernel
theorem dX4_takeFrom_36 : decode cX4_takeFrom 36 = .ok (.istore_n 2, 1) := by decide +kernel
theorem dX4_takeFrom_37 : decode cX4_takeFrom 37 = .ok (.iload_n 2, 1) := by decide +kernel
theorem dX4_takeFrom_38 : decode cX4_takeFrom 38 = .ok (.aload_n 0, 1) := by decide +kernel
theorem dX4_takeFrom_39 : decode cX4_takeFrom 39 = .ok (.getfield 25, 3) := by decide +kernel
theorem dX4_takeFrom_42 : decode cX4_takeFrom 42 = .ok (.if_icmp .ge 103, 3) := by decide +kernel
theorem dX4_takeFrom_45 : decode cX4_takeFrom 45 = .ok (.bipush 6, 2) := by decide +kernel
theorem dX4_takeFrom_47 : decode cX4_takeFrom 47 = .ok (.iload_n 2, 1) := by decide +kernel
theorem dX4_takeFrom_48 : decode cX4_takeFrom 48 = .ok (.imul, 1) := by decide +kernel
theorem dX4_takeFrom_49 : decode cX4_takeFrom 49 = .ok (.istore_n 3, 1) := by decide +kernel
theorem dX4_takeFrom_50 : decode cX4_takeFrom 50 = .ok (.aload_n 0, 1) := by decide +kernel
theorem dX4_takeFrom_51 : decode cX4_takeFrom 51 = .ok (.getfield 9, 3) := by decide +kernel
theorem dX4_takeFrom_54 : decode cX4_takeFrom 54 = .ok (.iload_n 2, 1) := by decide +kernel
theorem dX4_takeFrom_55 : decode cX4_takeFrom 55 = .ok (.aload_n 1, 1) := by decide +kernel
theorem dX4_takeFrom_56 : decode cX4_takeFrom 56 = .ok (.getfield 41, 3) := by decide +kernel
theorem dX4_takeFrom_59 : decode cX4_takeFrom 59 = .ok (.iload_n 3, 1) := by decide +kernel
theorem dX4_takeFrom_60 : decode cX4_takeFrom 60 = .ok (.iaload, 1) := by decide +kernel
theorem dX4_takeFrom_61 : decode cX4_takeFrom 61 = .ok (.bipush 97, 2) := by decide +kernel
theorem dX4_takeFrom_63 : decode cX4_takeFrom 63 = .ok (.isub, 1) := by decide +kernel
theorem dX4_takeFrom_64 : decode cX4_takeFrom 64 = .ok (.iastore, 1) := by decide +kernel
theorem dX4_takeFrom_65 : decode cX4_takeFrom 65 = .ok (.aload_n 0, 1) := by decide +kernel
theorem dX4_takeFrom_66 : decode cX4_takeFrom 66 = .ok (.getfield 15, 3) := by decide +kernel
theorem dX4_takeFrom_69 : decode cX4_takeFrom 69 = .ok (.iload_n 2, 1) := by decide +kernel
theorem dX4_takeFrom_70 : decode cX4_takeFrom 70 = .ok (.bipush 10, 2) := by decide +kernel
theorem dX4_takeFrom_72 : decode cX4_takeFrom 72 = .ok (.aload_n 1, 1) := by decide +kernel
theorem dX4_takeFrom_73 : decode cX4_takeFrom 73 = .ok (.getfield 41, 3) := by decide +kernel
theorem dX4_takeFrom_76 : decode cX4_takeFrom 76 = .ok (.iload_n 3, 1) := by decide +kernel
theorem dX4_takeFrom_77 : decode cX4_takeFrom 77 = .ok (.iconst 1, 1) := by decide +kernel
theorem dX4_takeFrom_78 : decode cX4_takeFrom 78 = .ok (.iadd, 1) := by decide +kernel
theorem dX4_takeFrom_79 : decode cX4_takeFrom 79 = .ok (.iaload, 1) := by decide +kernel
theorem dX4_takeFrom_80 : decode cX4_takeFrom 80 = .ok (.bipush 48, 2) := by decide +kernel
theorem dX4_takeFrom_82 : decode cX4_takeFrom 82 = .ok (.isub, 1) := by decide +kernel
theorem dX4_takeFrom_83 : decode cX4_takeFrom 83 = .ok (.imul, 1) := by decide +kernel
theorem dX4_takeFrom_84 : decode cX4_takeFrom 84 = .ok (.aload_n 1, 1) := by decide +kernel
theorem dX4_takeFrom_85 : decode cX4_takeFrom 85 = .ok (.getfield 41, 3) := by decide +kernel
theorem dX4_takeFrom_88 : decode cX4_takeFrom 88 = .ok (.iload_n 3, 1) := by decide +kernel
theorem dX4_takeFrom_89 : decode cX4_takeFrom 89 = .ok (.iconst 2, 1) := by decide +kernel
theorem dX4_takeFrom_90 : decode cX4_takeFrom 90 = .ok (.iadd, 1) := by decide +kernel
theorem dX4_takeFrom_91 : decode cX4_takeFrom 91 = .ok (.iaload, 1) := by decide +kernel
theorem dX4_takeFrom_92 : decode cX4_takeFrom 92 = .ok (.iadd, 1) := by decide +kernel
theorem dX4_takeFrom_93 : decode cX4_takeFrom 93 = .ok (.bipush 48, 2) := by decide +kernel
theorem dX4_takeFrom_95 : decode cX4_takeFrom 95 = .ok (.isub, 1) := by decide +kernel
theorem dX4_takeFrom_96 : decode cX4_takeFrom 96 = .ok (.iastore, 1) := by decide +kernel
theorem dX4_takeFrom_97 : decode cX4_takeFrom 97 = .ok (.aload_n 0, 1) := by decide +kernel
theorem dX4_takeFrom_98 : decode cX4_takeFrom 98 = .ok (.getfield 18, 3) := by decide +kernel
theorem dX4_takeFrom_101 : decode cX4_takeFrom 101 = .ok (.iload_n 2, 1) := by decide +kernel
theorem dX4_takeFrom_102 : decode cX4_takeFrom 102 = .ok (.aload_n 1, 1) := by decide +kernel
theorem dX4_takeFrom_103 : decode cX4_takeFrom 103 = .ok (.getfield 41, 3) := by decide +kernel
theorem dX4_takeFrom_106 : decode cX4_takeFrom 106 = .ok (.iload_n 3, 1) := by decide +kernel
theorem dX4_takeFrom_107 : decode cX4_takeFrom 107 = .ok (.iconst 3, 1) := by decide +kernel
theorem dX4_takeFrom_108 : decode cX4_takeFrom 108 = .ok (.iadd, 1) := by decide +kernel
theorem dX4_takeFrom_109 : decode cX4_takeFrom 109 = .ok (.iaload, 1) := by decide +kernel
theorem dX4_takeFrom_110 : decode cX4_takeFrom 110 = .ok (.bipush 48, 2) := by decide +kernel
theorem dX4_takeFrom_112 : decode cX4_takeFrom 112 = .ok (.isub, 1) := by decide +kernel
theorem dX4_takeFrom_113 : decode cX4_takeFrom 113 = .ok (.iastore, 1) := by decide +kernel
theorem dX4_takeFrom_114 : decode cX4_takeFrom 114 = .ok (.aload_n 1, 1) := by decide +kernel
theorem dX4_takeFrom_115 : decode cX4_takeFrom 115 = .ok (.getfield 41, 3) := by decide +kernel
theorem dX4_takeFrom_118 : decode cX4_takeFrom 118 = .ok (.iload_n 3, 1) := by decide +kernel
theorem dX4_takeFrom_119 : decode cX4_takeFrom 119 = .ok (.iconst 4, 1) := by decide +kernel
theorem dX4_takeFrom_120 : decode cX4_takeFrom 120 = .ok (.iadd, 1) := by decide +kernel
theorem dX4_takeFrom_121 : decode cX4_takeFrom 121 = .ok (.iaload, 1) := by decide +kernel
theorem dX4_takeFrom_122 : decode cX4_takeFrom 122 = .ok (.bipush 115, 2) := by decide +kernel
theorem dX4_takeFrom_124 : decode cX4_takeFrom 124 = .ok (.if_icmp .ne 15, 3) := by decide +kernel
theorem dX4_takeFrom_127 : decode cX4_takeFrom 127 = .ok (.aload_n 0, 1) := by decide +kernel
theorem dX4_takeFrom_128 : decode cX4_takeFrom 128 = .ok (.dup, 1) := by decide +kernel
theorem dX4_takeFrom_129 : decode cX4_takeFrom 129 = .ok (.getfield 21, 3) := by decide +kernel
theorem dX4_takeFrom_132 : decode cX4_takeFrom 132 = .ok (.iconst 1, 1) := by decide +kernel
theorem dX4_takeFrom_133 : decode cX4_takeFrom 133 = .ok (.iload_n 2, 1) := by decide +kernel
theorem dX4_takeFrom_134 : decode cX4_takeFrom 134 = .ok (.ishl, 1) := by decide +kernel
theorem dX4_takeFrom_135 : decode cX4_takeFrom 135 = .ok (.ior, 1) := by decide +kernel
theorem dX4_takeFrom_136 : decode cX4_takeFrom 136 = .ok (.putfield 21, 3) := by decide +kernel
theorem dX4_takeFrom_139 : decode cX4_takeFrom 139 = .ok (.iinc 2 1, 3) := by decide +kernel
theorem dX4_takeFrom_142 : decode cX4_takeFrom 142 = .ok (.goto (-105), 3) := by decide +kernel
theorem dX4_takeFrom_145 : decode cX4_takeFrom 145 = .ok (.return_, 1) := by decide +kernel
theorem dX4_voices_0 : decode cX4_voices 0 = .ok (.iconst 0, 1) := by decide +kernel
theorem dX4_voices_1 : decode cX4_voices 1 = .ok (.istore_n 1, 1) := by decide +kernel
theorem dX4_voices_2 : decode cX4_voices 2 = .ok (.iconst 0, 1) := by decide +kernel
theorem dX4_voices_3 : decode cX4_voices 3 = .ok (.istore_n 2, 1) := by decide +kernel
theorem dX4_voices_4 : decode cX4_voices 4 = .ok (.iload_n 2, 1) := by decide +kernel
theorem dX4_voices_5 : decode cX4_voices 5 = .ok (.aload_n 0, 1) := by decide +kernel
theorem dX4_voices_6 : decode cX4_voices 6 = .ok (.getfield 25, 3) := by decide +kernel
theorem dX4_voices_9 : decode cX4_voices 9 = .ok (.if_icmp .ge 20, 3) := by decide +kernel
theorem dX4_voices_12 : decode cX4_voices 12 = .ok (.iload_n 1, 1) := by decide +kernel
theorem dX4_voices_13 : decode cX4_voices 13 = .ok (.iconst 1, 1) := by decide +kernel
theorem dX4_voices_14 : decode cX4_voices 14 = .ok (.aload_n 0, 1) := by decide +kernel
theorem dX4_voices_15 : decode cX4_voices 15 = .ok (.getfield 9, 3) := by decide +kernel
theorem dX4_voices_18 : decode cX4_voices 18 = .ok (.iload_n 2, 1) := by decide +kernel
theorem dX4_voices_19 : decode cX4_voices 19 = .ok (.iaload, 1) := by decide +kernel
theorem dX4_voices_20 : decode cX4_voices 20 = .ok (.ishl, 1) := by decide +kernel
theorem dX4_voices_21 : decode cX4_voices 21 = .ok (.ior, 1) := by decide +kernel
theorem dX4_voices_22 : decode cX4_voices 22 = .ok (.istore_n 1, 1) := by decide +kernel
theorem dX4_voices_23 : decode cX4_voices 23 = .ok (.iinc 2 1, 3) := by decide +kernel
theorem dX4_voices_26 : decode cX4_voices 26 = .ok (.goto (-22), 3) := by decide +kernel
theorem dX4_voices_29 : decode cX4_voices 29 = .ok (.iload_n 1, 1) := by decide +kernel
theorem dX4_voices_30 : decode cX4_voices 30 = .ok (.ireturn, 1) := by decide +kernel
theorem dX5_init_0 : decode cX5_init 0 = .ok (.aload_n 0, 1) := by decide +kernel
theorem dX5_init_1 : decode cX5_init 1 = .ok (.invokespecial 3, 3) := by decide +kernel
theorem dX5_init_4 : decode cX5_init 4 = .ok (.aload_n 0, 1) := by decide +kernel
theorem dX5_init_5 : decode cX5_init 5 = .ok (.bipush 47, 2) := by decide +kernel
theorem dX5_init_7 : decode cX5_init 7 = .ok (.newarray .int, 2) := by decide +kernel
theorem dX5_init_9 : decode cX5_init 9 = .ok (.putfield 9, 3) := by decide +kernel
theorem dX5_init_12 : decode cX5_init 12 = .ok (.aload_n 0, 1) := by decide +kernel
theorem dX5_init_13 : decode cX5_init 13 = .ok (.iconst 0, 1) := by decide +kernel
theorem dX5_init_14 : decode cX5_init 14 = .ok (.putfield 15, 3) := by decide +kernel
theorem dX5_init_17 : decode cX5_init 17 = .ok (.aload_n 0, 1) := by decide +kernel
theorem dX5_init_18 : decode cX5_init 18 = .ok (.iload_n 1, 1) := by decide +kernel
theorem dX5_init_19 : decode cX5_init 19 = .ok (.bipush 47, 2) := by decide +kernel
theorem dX5_init_21 : decode cX5_init 21 = .ok (.invokestatic 19, 3) := by decide +kernel
theorem dX5_init_24 : decode cX5_init 24 = .ok (.putfield 25, 3) := by decide +kernel
theorem dX5_init_27 : decode cX5_init 27 = .ok (.return_, 1) := by decide +kernel
theorem dX5_faultAsBottles_0 : decode cX5_faultAsBottles 0 = .ok (.iconst 0, 1) := by decide +kernel
theorem dX5_faultAsBottles_1 : decode cX5_faultAsBottles 1 = .ok (.istore_n 1, 1) := by decide +kernel
theorem dX5_faultAsBottles_2 : decode cX5_faultAsBottles 2 = .ok (.iload_n 1, 1) := by decide +kernel
theorem dX5_faultAsBottles_3 : decode cX5_faultAsBottles 3 = .ok (.aload_n 0, 1) := by decide +kernel
theorem dX5_faultAsBottles_4 : decode cX5_faultAsBottles 4 = .ok (.getfield 15, 3) := by decide +kernel
theorem dX5_faultAsBottles_7 : decode cX5_faultAsBottles 7 = .ok (.if_icmp .ge 19, 3) := by decide +kernel
theorem dX5_faultAsBottles_10 : decode cX5_faultAsBottles 10 = .ok (.aload_n 0, 1) := by decide +kernel
theorem dX5_faultAsBottles_11 : decode cX5_faultAsBottles 11 = .ok (.iload_n 1, 1) := by decide +kernel
theorem dX5_faultAsBottles_12 : decode cX5_faultAsBottles 12 = .ok (.invokevirtual 28, 3) := by decide +kernel
theorem dX5_faultAsBottles_15 : decode cX5_faultAsBottles 15 = .ok (.ifCond .ne 5, 3) := by decide +kernel
theorem dX5_faultAsBottles_18 : decode cX5_faultAsBottles 18 = .ok (.iload_n 1, 1) := by decide +kernel
theorem dX5_faultAsBottles_19 : decode cX5_faultAsBottles 19 = .ok (.ireturn, 1) := by decide +kernel
theorem dX5_faultAsBottles_20 : decode cX5_faultAsBottles 20 = .ok (.iinc 1 1, 3) := by decide +kernel
theorem dX5_faultAsBottles_23 : decode cX5_faultAsBottles 23 = .ok (.goto (-21), 3) := by decide +kernel
theorem dX5_faultAsBottles_26 : decode cX5_faultAsBottles 26 = .ok (.aload_n 0, 1) := by decide +kernel
theorem dX5_faultAsBottles_27 : decode cX5_faultAsBottles 27 = .ok (.getfield 15, 3) := by decide +kernel
theorem dX5_faultAsBottles_30 : decode cX5_faultAsBottles 30 = .ok (.ifCond .eq 14, 3) := by decide +kernel
theorem dX5_faultAsBottles_33 : decode cX5_faultAsBottles 33 = .ok (.aload_n 0, 1) := by decide +kernel
theorem dX5_faultAsBottles_34 : decode cX5_faultAsBottles 34 = .ok (.getfield 15, 3) := by decide +kernel
theorem dX5_faultAsBottles_37 : decode cX5_faultAsBottles 37 = .ok (.bipush 6, 2) := by decide +kernel
theorem dX5_faultAsBottles_39 : decode cX5_faultAsBottles 39 = .ok (.irem, 1) := by decide +kernel
theorem dX5_faultAsBottles_40 : decode cX5_faultAsBottles 40 = .ok (.iconst 5, 1) := by decide +kernel
theorem dX5_faultAsBottles_41 : decode cX5_faultAsBottles 41 = .ok (.if_icmp .ne 7, 3) := by decide +kernel
theorem dX5_faultAsBottles_44 : decode cX5_faultAsBottles 44 = .ok (.iconst (-1), 1) := by decide +kernel
theorem dX5_faultAsBottles_45 : decode cX5_faultAsBottles 45 = .ok (.goto 7, 3) := by decide +kernel
theorem dX5_faultAsBottles_48 : decode cX5_faultAsBottles 48 = .ok (.aload_n 0, 1) := by decide +kernel
theorem dX5_faultAsBottles_49 : decode cX5_faultAsBottles 49 = .ok (.getfield 15, 3) := by decide +kernel
theorem dX5_faultAsBottles_52 : decode cX5_faultAsBottles 52 = .ok (.ireturn, 1) := by decide +kernel
theorem dX5_mayStandAt_0 : decode cX5_mayStandAt 0 = .ok (.aload_n 0, 1) := by decide +kernel
theorem dX5_mayStandAt_1 : decode cX5_mayStandAt 1 = .ok (.getfield 9, 3) := by decide +kernel
theorem dX5_mayStandAt_4 : decode cX5_mayStandAt 4 = .ok (.iload_n 1, 1) := by decide +kernel
theorem dX5_mayStandAt_5 : decode cX5_mayStandAt 5 = .ok (.iaload, 1) := by decide +kernel
theorem dX5_mayStandAt_6 : decode cX5_mayStandAt 6 = .ok (.istore_n 2, 1) := by decide +kernel
theorem dX5_mayStandAt_7 : decode cX5_mayStandAt 7 = .ok (.iload_n 1, 1) := by decide +kernel
theorem dX5_mayStandAt_8 : decode cX5_mayStandAt 8 = .ok (.bipush 6, 2) := by decide +kernel
theorem dX5_mayStandAt_10 : decode cX5_mayStandAt 10 = .ok (.irem, 1) := by decide +kernel
theorem dX5_mayStandAt_11 : decode cX5_mayStandAt 11 = .ok (.tableswitch 98 0 4 #[33, 38, 43, 38, 80], 33) := by decide +kernel
theorem dX5_mayStandAt_44 : decode cX5_mayStandAt 44 = .ok (.iload_n 2, 1) := by decide +kernel
theorem dX5_mayStandAt_45 : decode cX5_mayStandAt 45 = .ok (.invokestatic 32, 3) := by decide +kernel
theorem dX5_mayStandAt_48 : decode cX5_mayStandAt 48 = .ok (.ireturn, 1) := by decide +kernel
theorem dX5_mayStandAt_49 : decode cX5_mayStandAt 49 = .ok (.iload_n 2, 1) := by decide +kernel
theorem dX5_mayStandAt_50 : decode cX5_mayStandAt 50 = .ok (.invokestatic 35, 3) := by decide +kernel
theorem dX5_mayStandAt_53 : decode cX5_mayStandAt 53 = .ok (.ireturn, 1) := by decide +kernel
theorem dX5_mayStandAt_54 : decode cX5_mayStandAt 54 = .ok (.iload_n 2, 1) := by decide +kernel
theorem dX5_mayStandAt_55 : decode cX5_mayStandAt 55 = .ok (.invokestatic 35, 3) := by decide +kernel
theorem dX5_mayStandAt_58 : decode cX5_mayStandAt 58 = .ok (.ifCond .eq 31, 3) := by decide +kernel
theorem dX5_mayStandAt_61 : decode cX5_mayStandAt 61 = .ok (.iload_n 2, 1) := by decide +kernel
theorem dX5_mayStandAt_62 : decode cX5_mayStandAt 62 = .ok (.bipush 48, 2) := by decide +kernel
theorem dX5_mayStandAt_64 : decode cX5_mayStandAt 64 = .ok (.if_icmp .ne 21, 3) := by decide +kernel
theorem dX5_mayStandAt_67 : decode cX5_mayStandAt 67 = .ok (.iload_n 1, 1) := by decide +kernel
theorem dX5_mayStandAt_68 : decode cX5_mayStandAt 68 = .ok (.iconst 1, 1) := by decide +kernel
theorem dX5_mayStandAt_69 : decode cX5_mayStandAt 69 = .ok (.if_icmp .lt 16, 3) := by decide +kernel
theorem dX5_mayStandAt_72 : decode cX5_mayStandAt 72 = .ok (.aload_n 0, 1) := by decide +kernel
theorem dX5_mayStandAt_73 : decode cX5_mayStandAt 73 = .ok (.getfield 9, 3) := by decide +kernel
theorem dX5_mayStandAt_76 : decode cX5_mayStandAt 76 = .ok (.iload_n 1, 1) := by decide +kernel
theorem dX5_mayStandAt_77 : decode cX5_mayStandAt 77 = .ok (.iconst 1, 1) := by decide +kernel
theorem dX5_mayStandAt_78 : decode cX5_mayStandAt 78 = .ok (.isub, 1) := by decide +kernel
theorem dX5_mayStandAt_79 : decode cX5_mayStandAt 79 = .ok (.iaload, 1) := by decide +kernel
theorem dX5_mayStandAt_80 : decode cX5_mayStandAt 80 = .ok (.bipush 48, 2) := by decide +kernel
theorem dX5_mayStandAt_82 : decode cX5_mayStandAt 82 = .ok (.if_icmp .eq 7, 3) := by decide +kernel
theorem dX5_mayStandAt_85 : decode cX5_mayStandAt 85 = .ok (.iconst 1, 1) := by decide +kernel
theorem dX5_mayStandAt_86 : decode cX5_mayStandAt 86 = .ok (.goto 4, 3) := by decide +kernel
theorem dX5_mayStandAt_89 : decode cX5_mayStandAt 89 = .ok (.iconst 0, 1) := by decide +kernel
theorem dX5_mayStandAt_90 : decode cX5_mayStandAt 90 = .ok (.ireturn, 1) := by decide +kernel
theorem dX5_mayStandAt_91 : decode cX5_mayStandAt 91 = .ok (.iload_n 2, 1) := by decide +kernel
theorem dX5_mayStandAt_92 : decode cX5_mayStandAt 92 = .ok (.bipush 110, 2) := by decide +kernel
theorem dX5_mayStandAt_94 : decode cX5_mayStandAt 94 = .ok (.if_icmp .eq 9, 3) := by decide +kernel
theorem dX5_mayStandAt_97 : decode cX5_mayStandAt 97 = .ok (.iload_n 2, 1) := by decide +kernel
theorem dX5_mayStandAt_98 : decode cX5_mayStandAt 98 = .ok (.bipush 115, 2) := by decide +kernel
theorem dX5_mayStandAt_100 : decode cX5_mayStandAt 100 = .ok (.if_icmp .ne 7, 3) := by decide +kernel
theorem dX5_mayStandAt_103 : decode cX5_mayStandAt 103 = .ok (.iconst 1, 1) := by decide +kernel
theorem dX5_mayStandAt_104 : decode cX5_mayStandAt 104 = .ok (.goto 4, 3) := by decide +kernel
theorem dX5_mayStandAt_107 : decode cX5_mayStandAt 107 = .ok (.iconst 0, 1) := by decide +kernel
theorem dX5_mayStandAt_108 : decode cX5_mayStandAt 108 = .ok (.ireturn, 1) := by decide +kernel
theorem dX5_mayStandAt_109 : decode cX5_mayStandAt 109 = .ok (.iload_n 2, 1) := by decide +kernel
theorem dX5_mayStandAt_110 : decode cX5_mayStandAt 110 = .ok (.bipush 59, 2) := by decide +kernel
theorem dX5_mayStandAt_112 : decode cX5_mayStandAt 112 = .ok (.if_icmp .ne 7, 3) := by decide +kernel
theorem dX5_mayStandAt_115 : decode cX5_mayStandAt 115 = .ok (.iconst 1, 1) := by decide +kernel
theorem dX5_mayStandAt_116 : decode cX5_mayStandAt 116 = .ok (.goto 4, 3) := by decide +kernel
theorem dX5_mayStandAt_119 : decode cX5_mayStandAt 119 = .ok (.iconst 0, 1) := by decide +kernel
theorem dX5_mayStandAt_120 : decode cX5_mayStandAt 120 = .ok (.ireturn, 1) := by decide +kernel
theorem dX5_faultAsSong_0 : decode cX5_faultAsSong 0 = .ok (.iconst 0, 1) := by decide +kernel
theorem dX5_faultAsSong_1 : decode cX5_faultAsSong 1 = .ok (.istore_n 1, 1) := by decide +kernel
theorem dX5_faultAsSong_2 : decode cX5_faultAsSong 2 = .ok (.iload_n 1, 1) := by decide +kernel
theorem dX5_faultAsSong_3 : decode cX5_faultAsSong 3 = .ok (.aload_n 0, 1) := by decide +kernel
theorem dX5_faultAsSong_4 : decode cX5_faultAsSong 4 = .ok (.getfield 15, 3) := by decide +kernel
theorem dX5_faultAsSong_7 : decode cX5_faultAsSong 7 = .ok (.if_icmp .ge 23, 3) := by decide +kernel
theorem dX5_faultAsSong_10 : decode cX5_faultAsSong 10 = .ok (.aload_n 0, 1) := by decide +kernel
theorem dX5_faultAsSong_11 : decode cX5_faultAsSong 11 = .ok (.getfield 9, 3) := by decide +kernel
theorem dX5_faultAsSong_14 : decode cX5_faultAsSong 14 = .ok (.iload_n 1, 1) := by decide +kernel
theorem dX5_faultAsSong_15 : decode cX5_faultAsSong 15 = .ok (.iaload, 1) := by decide +kernel
theorem dX5_faultAsSong_16 : decode cX5_faultAsSong 16 = .ok (.invokestatic 32, 3) := by decide +kernel
theorem dX5_faultAsSong_19 : decode cX5_faultAsSong 19 = .ok (.ifCond .ne 5, 3) := by decide +kernel
theorem dX5_faultAsSong_22 : decode cX5_faultAsSong 22 = .ok (.iload_n 1, 1) := by decide +kernel
theorem dX5_faultAsSong_23 : decode cX5_faultAsSong 23 = .ok (.ireturn, 1) := by decide +kernel
theorem dX5_faultAsSong_24 : decode cX5_faultAsSong 24 = .ok (.iinc 1 1, 3) := by decide +kernel
theorem dX5_faultAsSong_27 : decode cX5_faultAsSong 27 = .ok (.goto (-25), 3) := by decide +kernel
theorem dX5_faultAsSong_30 : decode cX5_faultAsSong 30 = .ok (.iconst (-1), 1) := by decide +kernel
theorem dX5_faultAsSong_31 : decode cX5_faultAsSong 31 = .ok (.ireturn, 1) := by decide +kernel
theorem dX5_isLetter_0 : decode cX5_isLetter 0 = .ok (.iload_n 0, 1) := by decide +kernel
theorem dX5_isLetter_1 : decode cX5_isLetter 1 = .ok (.bipush 97, 2) := by decide +kernel
theorem dX5_isLetter_3 : decode cX5_isLetter 3 = .ok (.if_icmp .lt 13, 3) := by decide +kernel
theorem dX5_isLetter_6 : decode cX5_isLetter 6 = .ok (.iload_n 0, 1) := by decide +kernel
theorem dX5_isLetter_7 : decode cX5_isLetter 7 = .ok (.bipush 104, 2) := by decide +kernel
theorem dX5_isLetter_9 : decode cX5_isLetter 9 = .ok (.if_icmp .gt 7, 3) := by decide +kernel
theorem dX5_isLetter_12 : decode cX5_isLetter 12 = .ok (.iconst 1, 1) := by decide +kernel
theorem dX5_isLetter_13 : decode cX5_isLetter 13 = .ok (.goto 4, 3) := by decide +kernel
theorem dX5_isLetter_16 : decode cX5_isLetter 16 = .ok (.iconst 0, 1) := by decide +kernel
theorem dX5_isLetter_17 : decode cX5_isLetter 17 = .ok (.ireturn, 1) := by decide +kernel
theorem dX5_isFigure_0 : decode cX5_isFigure 0 = .ok (.iload_n 0, 1) := by decide +kernel
theorem dX5_isFigure_1 : decode cX5_isFigure 1 = .ok (.bipush 48, 2) := by decide +kernel
theorem dX5_isFigure_3 : decode cX5_isFigure 3 = .ok (.if_icmp .lt 13, 3) := by decide +kernel
theorem dX5_isFigure_6 : decode cX5_isFigure 6 = .ok (.iload_n 0, 1) := by decide +kernel
theorem dX5_isFigure_7 : decode cX5_isFigure 7 = .ok (.bipush 57, 2) := by decide +kernel
theorem dX5_isFigure_9 : decode cX5_isFigure 9 = .ok (.if_icmp .gt 7, 3) := by decide +kernel
theorem dX5_isFigure_12 : decode cX5_isFigure 12 = .ok (.iconst 1, 1) := by decide +kernel
theorem dX5_isFigure_13 : decode cX5_isFigure 13 = .ok (.goto 4, 3) := by decide +kernel
theorem dX5_isFigure_16 : decode cX5_isFigure 16 = .ok (.iconst 0, 1) := by decide +kernel
theorem dX5_isFigure_17 : decode cX5_isFigure 17 = .ok (.ireturn, 1) := by decide +kernel
theorem dX6_init_0 : decode cX6_init 0 = .ok (.aload_n 0, 1) := by decide +kernel
theorem dX6_init_1 : decode cX6_init 1 = .ok (.invokespecial 3, 3) := by decide +kernel
theorem dX6_init_4 : decode cX6_init 4 = .ok (.aload_n 0, 1) := by decide +kernel
theorem dX6_init_5 : decode cX6_init 5 = .ok (.new 9, 3) := by decide +kernel
theorem dX6_init_8 : decode cX6_init 8 = .ok (.dup, 1) := by decide +kernel
theorem dX6_init_9 : decode cX6_init 9 = .ok (.invokespecial 11, 3) := by decide +kernel
theorem dX6_init_12 : decode cX6_init 12 = .ok (.putfield 12, 3) := by decide +kernel
theorem dX6_init_15 : decode cX6_init 15 = .ok (.aload_n 0, 1) := by decide +kernel
theorem dX6_init_16 : decode cX6_init 16 = .ok (.new 18, 3) := by decide +kernel
theorem dX6_init_19 : decode cX6_init 19 = .ok (.dup, 1) := by decide +kernel
theorem dX6_init_20 : decode cX6_init 20 = .ok (.invokespecial 20, 3) := by decide +kernel
theorem dX6_init_23 : decode cX6_init 23 = .ok (.putfield 21, 3) := by decide +kernel
theorem dX6_init_26 : decode cX6_init 26 = .ok (.aload_n 0, 1) := by decide +kernel
theorem dX6_init_27 : decode cX6_init 27 = .ok (.bipush 8, 2) := by decide +kernel
theorem dX6_init_29 : decode cX6_init 29 = .ok (.newarray .int, 2) := by decide +kernel
theorem dX6_init_31 : decode cX6_init 31 = .ok (.putfield 25, 3) := by decide +kernel
theorem dX6_init_34 : decode cX6_init 34 = .ok (.aload_n 0, 1) := by decide +kernel
theorem dX6_init_35 : decode cX6_init 35 = .ok (.iconst 0, 1) := by decide +kernel
theorem dX6_init_36 : decode cX6_init 36 = .ok (.putfield 29, 3) := by decide +kernel
theorem dX6_init_39 : decode cX6_init 39 = .ok (.aload_n 0, 1) := by decide +kernel
theorem dX6_init_40 : decode cX6_init 40 = .ok (.bipush 60, 2) := by decide +kernel
theorem dX6_init_42 : decode cX6_init 42 = .ok (.putfield 33, 3) := by decide +kernel
theorem dX6_init_45 : decode cX6_init 45 = .ok (.return_, 1) := by decide +kernel
theorem dX6_isHot_0 : decode cX6_isHot 0 = .ok (.iconst 0, 1) := by decide +kernel
theorem dX6_isHot_1 : decode cX6_isHot 1 = .ok (.istore_n 2, 1) := by decide +kernel
theorem dX6_isHot_2 : decode cX6_isHot 2 = .ok (.iload_n 2, 1) := by decide +kernel
theorem dX6_isHot_3 : decode cX6_isHot 3 = .ok (.aload_n 0, 1) := by decide +kernel
theorem dX6_isHot_4 : decode cX6_isHot 4 = .ok (.getfield 29, 3) := by decide +kernel
theorem dX6_isHot_7 : decode cX6_isHot 7 = .ok (.if_icmp .ge 21, 3) := by decide +kernel
theorem dX6_isHot_10 : decode cX6_isHot 10 = .ok (.aload_n 0, 1) := by decide +kernel
theorem dX6_isHot_11 : decode cX6_isHot 11 = .ok (.getfield 25, 3) := by decide +kernel
theorem dX6_isHot_14 : decode cX6_isHot 14 = .ok (.iload_n 2, 1) := by decide +kernel
theorem dX6_isHot_15 : decode cX6_isHot 15 = .ok (.iaload, 1) := by decide +kernel
theorem dX6_isHot_16 : decode cX6_isHot 16 = .ok (.iload_n 1, 1) := by decide +kernel
theorem dX6_isHot_17 : decode cX6_isHot 17 = .ok (.if_icmp .ne 5, 3) := by decide +kernel
theorem dX6_isHot_20 : decode cX6_isHot 20 = .ok (.iconst 1, 1) := by decide +kernel
theorem dX6_isHot_21 : decode cX6_isHot 21 = .ok (.ireturn, 1) := by decide +kernel
theorem dX6_isHot_22 : decode cX6_isHot 22 = .ok (.iinc 2 1, 3) := by decide +kernel
theorem dX6_isHot_25 : decode cX6_isHot 25 = .ok (.goto (-23), 3) := by decide +kernel
theorem dX6_isHot_28 : decode cX6_isHot 28 = .ok (.iconst 0, 1) := by decide +kernel
theorem dX6_isHot_29 : decode cX6_isHot 29 = .ok (.ireturn, 1) := by decide +kernel
theorem dX7_init_0 : decode cX7_init 0 = .ok (.aload_n 0, 1) := by decide +kernel
theorem dX7_init_1 : decode cX7_init 1 = .ok (.invokespecial 3, 3) := by decide +kernel
theorem dX7_init_4 : decode cX7_init 4 = .ok (.aload_n 0, 1) := by decide +kernel
theorem dX7_init_5 : decode cX7_init 5 = .ok (.bipush 8, 2) := by decide +kernel
theorem dX7_init_7 : decode cX7_init 7 = .ok (.newarray .int, 2) := by decide +kernel
theorem dX7_init_9 : decode cX7_init 9 = .ok (.putfield 9, 3) := by decide +kernel
theorem dX7_init_12 : decode cX7_init 12 = .ok (.aload_n 0, 1) := by decide +kernel
theorem dX7_init_13 : decode cX7_init 13 = .ok (.bipush 8, 2) := by decide +kernel
theorem dX7_init_15 : decode cX7_init 15 = .ok (.newarray .int, 2) := by decide +kernel
theorem dX7_init_17 : decode cX7_init 17 = .ok (.putfield 15, 3) := by decide +kernel
theorem dX7_init_20 : decode cX7_init 20 = .ok (.aload_n 0, 1) := by decide +kernel
theorem dX7_init_21 : decode cX7_init 21 = .ok (.bipush 8, 2) := by decide +kernel
theorem dX7_init_23 : decode cX7_init 23 = .ok (.newarray .int, 2) := by decide +kernel
theorem dX7_init_25 : decode cX7_init 25 = .ok (.putfield 18, 3) := by decide +kernel
theorem dX7_init_28 : decode cX7_init 28 = .ok (.aload_n 0, 1) := by decide +kernel
theorem dX7_init_29 : decode cX7_init 29 = .ok (.iconst 0, 1) := by decide +kernel
theorem dX7_init_30 : decode cX7_init 30 = .ok (.putfield 21, 3) := by decide +kernel
theorem dX7_init_33 : decode cX7_init 33 = .ok (.return_, 1) := by decide +kernel
theorem dX7_lastDay_0 : decode cX7_lastDay 0 = .ok (.iconst (-1), 1) := by decide +kernel
theorem dX7_lastDay_1 : decode cX7_lastDay 1 = .ok (.istore_n 1, 1) := by decide +kernel
theorem dX7_lastDay_2 : decode cX7_lastDay 2 = .ok (.iconst 0, 1) := by decide +kernel
theorem dX7_lastDay_3 : decode cX7_lastDay 3 = .ok (.istore_n 2, 1) := by decide +kernel
theorem dX7_lastDay_4 : decode cX7_lastDay 4 = .ok (.iload_n 2, 1) := by decide +kernel
theorem dX7_lastDay_5 : decode cX7_lastDay 5 = .ok (.aload_n 0, 1) := by decide +kernel
theorem dX7_lastDay_6 : decode cX7_lastDay 6 = .ok (.getfield 21, 3) := by decide +kernel
theorem dX7_lastDay_9 : decode cX7_lastDay 9 = .ok (.if_icmp .ge 20, 3) := by decide +kernel
theorem dX7_lastDay_12 : decode cX7_lastDay 12 = .ok (.iload_n 1, 1) := by decide +kernel
theorem dX7_lastDay_13 : decode cX7_lastDay 13 = .ok (.aload_n 0, 1) := by decide +kernel
theorem dX7_lastDay_14 : decode cX7_lastDay 14 = .ok (.getfield 9, 3) := by decide +kernel
theorem dX7_lastDay_17 : decode cX7_lastDay 17 = .ok (.iload_n 2, 1) := by decide +kernel
theorem dX7_lastDay_18 : decode cX7_lastDay 18 = .ok (.iaload, 1) := by decide +kernel
theorem dX7_lastDay_19 : decode cX7_lastDay 19 = .ok (.invokestatic 25, 3) := by decide +kernel
theorem dX7_lastDay_22 : decode cX7_lastDay 22 = .ok (.istore_n 1, 1) := by decide +kernel
theorem dX7_lastDay_23 : decode cX7_lastDay 23 = .ok (.iinc 2 1, 3) := by decide +kernel
theorem dX7_lastDay_26 : decode cX7_lastDay 26 = .ok (.goto (-22), 3) := by decide +kernel
theorem dX7_lastDay_29 : decode cX7_lastDay 29 = .ok (.iload_n 1, 1) := by decide +kernel
theorem dX7_lastDay_30 : decode cX7_lastDay 30 = .ok (.ireturn, 1) := by decide +kernel
theorem dX7_agreeWith_0 : decode cX7_agreeWith 0 = .ok (.iconst 0, 1) := by decide +kernel
theorem dX7_agreeWith_1 : decode cX7_agreeWith 1 = .ok (.istore_n 2, 1) := by decide +kernel
theorem dX7_agreeWith_2 : decode cX7_agreeWith 2 = .ok (.iload_n 2, 1) := by decide +kernel
theorem dX7_agreeWith_3 : decode cX7_agreeWith 3 = .ok (.aload_n 0, 1) := by decide +kernel
theorem dX7_agreeWith_4 : decode cX7_agreeWith 4 = .ok (.getfield 21, 3) := by decide +kernel
theorem dX7_agreeWith_7 : decode cX7_agreeWith 7 = .ok (.if_icmp .ge 56, 3) := by decide +kernel
theorem dX7_agreeWith_10 : decode cX7_agreeWith 10 = .ok (.aload_n 0, 1) := by decide +kernel
theorem dX7_agreeWith_11 : decode cX7_agreeWith 11 = .ok (.getfield 9, 3) := by decide +kernel
theorem dX7_agreeWith_14 : decode cX7_agreeWith 14 = .ok (.iload_n 2, 1) := by decide +kernel
theorem dX7_agreeWith_15 : decode cX7_agreeWith 15 = .ok (.iaload, 1) := by decide +kernel
theorem dX7_agreeWith_16 : decode cX7_agreeWith 16 = .ok (.aload_n 1, 1) := by decide +kernel
theorem dX7_agreeWith_17 : decode cX7_agreeWith 17 = .ok (.getfield 31, 3) := by decide +kernel
theorem dX7_agreeWith_20 : decode cX7_agreeWith 20 = .ok (.if_icmp .ne 37, 3) := by decide +kernel
theorem dX7_agreeWith_23 : decode cX7_agreeWith 23 = .ok (.aload_n 0, 1) := by decide +kernel
theorem dX7_agreeWith_24 : decode cX7_agreeWith 24 = .ok (.getfield 15, 3) := by decide +kernel
theorem dX7_agreeWith_27 : decode cX7_agreeWith 27 = .ok (.iload_n 2, 1) := by decide +kernel
theorem dX7_agreeWith_28 : decode cX7_agreeWith 28 = .ok (.iaload, 1) := by decide +kernel
theorem dX7_agreeWith_29 : decode cX7_agreeWith 29 = .ok (.aload_n 1, 1) := by decide +kernel
theorem dX7_agreeWith_30 : decode cX7_agreeWith 30 = .ok (.getfield 35, 3) := by decide +kernel
theorem dX7_agreeWith_33 : decode cX7_agreeWith 33 = .ok (.if_icmp .ge 22, 3) := by decide +kernel
theorem dX7_agreeWith_36 : decode cX7_agreeWith 36 = .ok (.aload_n 1, 1) := by decide +kernel
theorem dX7_agreeWith_37 : decode cX7_agreeWith 37 = .ok (.aload_n 0, 1) := by decide +kernel
theorem dX7_agreeWith_38 : decode cX7_agreeWith 38 = .ok (.getfield 15, 3) := by decide +kernel
theorem dX7_agreeWith_41 : decode cX7_agreeWith 41 = .ok (.iload_n 2, 1) := by decide +kernel
theorem dX7_agreeWith_42 : decode cX7_agreeWith 42 = .ok (.iaload, 1) := by decide +kernel
theorem dX7_agreeWith_43 : decode cX7_agreeWith 43 = .ok (.invokevirtual 36, 3) := by decide +kernel
theorem dX7_agreeWith_46 : decode cX7_agreeWith 46 = .ok (.aload_n 0, 1) := by decide +kernel
theorem dX7_agreeWith_47 : decode cX7_agreeWith 47 = .ok (.getfield 18, 3) := by decide +kernel
theorem dX7_agreeWith_50 : decode cX7_agreeWith 50 = .ok (.iload_n 2, 1) := by decide +kernel
theorem dX7_agreeWith_51 : decode cX7_agreeWith 51 = .ok (.iaload, 1) := by decide +kernel
theorem dX7_agreeWith_52 : decode cX7_agreeWith 52 = .ok (.if_icmp .eq 5, 3) := by decide +kernel
theorem dX7_agreeWith_55 : decode cX7_agreeWith 55 = .ok (.iconst 0, 1) := by decide +kernel
theorem dX7_agreeWith_56 : decode cX7_agreeWith 56 = .ok (.ireturn, 1) := by decide +kernel
theorem dX7_agreeWith_57 : decode cX7_agreeWith 57 = .ok (.iinc 2 1, 3) := by decide +kernel
theorem dX7_agreeWith_60 : decode cX7_agreeWith 60 = .ok (.goto (-58), 3) := by decide +kernel
theorem dX7_agreeWith_63 : decode cX7_agreeWith 63 = .ok (.iconst 1, 1) := by decide +kernel
theorem dX7_agreeWith_64 : decode cX7_agreeWith 64 = .ok (.ireturn, 1) := by decide +kernel
theorem dJ6_numberOfTrailingZeros_0f7a4_0 : decode cJ6_numberOfTrailingZeros_0f7a4 0 = .ok (.iload_n 0, 1) := by decide +kernel
theorem dJ6_numberOfTrailingZeros_0f7a4_1 : decode cJ6_numberOfTrailingZeros_0f7a4 1 = .ok (.iconst (-1), 1) := by decide +kernel
theorem dJ6_numberOfTrailingZeros_0f7a4_2 : decode cJ6_numberOfTrailingZeros_0f7a4 2 = .ok (.ixor, 1) := by decide +kernel
theorem dJ6_numberOfTrailingZeros_0f7a4_3 : decode cJ6_numberOfTrailingZeros_0f7a4 3 = .ok (.iload_n 0, 1) := by decide +kernel
theorem dJ6_numberOfTrailingZeros_0f7a4_4 : decode cJ6_numberOfTrailingZeros_0f7a4 4 = .ok (.iconst 1, 1) := by decide +kernel
theorem dJ6_numberOfTrailingZeros_0f7a4_5 : decode cJ6_numberOfTrailingZeros_0f7a4 5 = .ok (.isub, 1) := by decide +kernel
theorem dJ6_numberOfTrailingZeros_0f7a4_6 : decode cJ6_numberOfTrailingZeros_0f7a4 6 = .ok (.iand, 1) := by decide +kernel
theorem dJ6_numberOfTrailingZeros_0f7a4_7 : decode cJ6_numberOfTrailingZeros_0f7a4 7 = .ok (.istore_n 0, 1) := by decide +kernel
theorem dJ6_numberOfTrailingZeros_0f7a4_8 : decode cJ6_numberOfTrailingZeros_0f7a4 8 = .ok (.iload_n 0, 1) := by decide +kernel
theorem dJ6_numberOfTrailingZeros_0f7a4_9 : decode cJ6_numberOfTrailingZeros_0f7a4 9 = .ok (.ifCond .gt 8, 3) := by decide +kernel
theorem dJ6_numberOfTrailingZeros_0f7a4_12 : decode cJ6_numberOfTrailingZeros_0f7a4 12 = .ok (.iload_n 0, 1) := by decide +kernel
theorem dJ6_numberOfTrailingZeros_0f7a4_13 : decode cJ6_numberOfTrailingZeros_0f7a4 13 = .ok (.bipush 32, 2) := by decide +kernel
theorem dJ6_numberOfTrailingZeros_0f7a4_15 : decode cJ6_numberOfTrailingZeros_0f7a4 15 = .ok (.iand, 1) := by decide +kernel
theorem dJ6_numberOfTrailingZeros_0f7a4_16 : decode cJ6_numberOfTrailingZeros_0f7a4 16 = .ok (.ireturn, 1) := by decide +kernel
theorem dJ6_numberOfTrailingZeros_0f7a4_17 : decode cJ6_numberOfTrailingZeros_0f7a4 17 = .ok (.iconst 1, 1) := by decide +kernel
theorem dJ6_numberOfTrailingZeros_0f7a4_18 : decode cJ6_numberOfTrailingZeros_0f7a4 18 = .ok (.istore_n 1, 1) := by decide +kernel
theorem dJ6_numberOfTrailingZeros_0f7a4_19 : decode cJ6_numberOfTrailingZeros_0f7a4 19 = .ok (.iload_n 0, 1) := by decide +kernel
theorem dJ6_numberOfTrailingZeros_0f7a4_20 : decode cJ6_numberOfTrailingZeros_0f7a4 20 = .ok (.ldc_w 264, 3) := by decide +kernel
theorem dJ6_numberOfTrailingZeros_0f7a4_23 : decode cJ6_numberOfTrailingZeros_0f7a4 23 = .ok (.if_icmp .le 11, 3) := by decide +kernel
theorem dJ6_numberOfTrailingZeros_0f7a4_26 : decode cJ6_numberOfTrailingZeros_0f7a4 26 = .ok (.iinc 1 16, 3) := by decide +kernel
theorem dJ6_numberOfTrailingZeros_0f7a4_29 : decode cJ6_numberOfTrailingZeros_0f7a4 29 = .ok (.iload_n 0, 1) := by decide +kernel
theorem dJ6_numberOfTrailingZeros_0f7a4_30 : decode cJ6_numberOfTrailingZeros_0f7a4 30 = .ok (.bipush 16, 2) := by decide +kernel
theorem dJ6_numberOfTrailingZeros_0f7a4_32 : decode cJ6_numberOfTrailingZeros_0f7a4 32 = .ok (.iushr, 1) := by decide +kernel
theorem dJ6_numberOfTrailingZeros_0f7a4_33 : decode cJ6_numberOfTrailingZeros_0f7a4 33 = .ok (.istore_n 0, 1) := by decide +kernel
theorem dJ6_numberOfTrailingZeros_0f7a4_34 : decode cJ6_numberOfTrailingZeros_0f7a4 34 = .ok (.iload_n 0, 1) := by decide +kernel
theorem dJ6_numberOfTrailingZeros_0f7a4_35 : decode cJ6_numberOfTrailingZeros_0f7a4 35 = .ok (.sipush 256, 3) := by decide +kernel
theorem dJ6_numberOfTrailingZeros_0f7a4_38 : decode cJ6_numberOfTrailingZeros_0f7a4 38 = .ok (.if_icmp .le 11, 3) := by decide +kernel
theorem dJ6_numberOfTrailingZeros_0f7a4_41 : decode cJ6_numberOfTrailingZeros_0f7a4 41 = .ok (.iinc 1 8, 3) := by decide +kernel
theorem dJ6_numberOfTrailingZeros_0f7a4_44 : decode cJ6_numberOfTrailingZeros_0f7a4 44 = .ok (.iload_n 0, 1) := by decide +kernel
theorem dJ6_numberOfTrailingZeros_0f7a4_45 : decode cJ6_numberOfTrailingZeros_0f7a4 45 = .ok (.bipush 8, 2) := by decide +kernel
theorem dJ6_numberOfTrailingZeros_0f7a4_47 : decode cJ6_numberOfTrailingZeros_0f7a4 47 = .ok (.iushr, 1) := by decide +kernel
theorem dJ6_numberOfTrailingZeros_0f7a4_48 : decode cJ6_numberOfTrailingZeros_0f7a4 48 = .ok (.istore_n 0, 1) := by decide +kernel
theorem dJ6_numberOfTrailingZeros_0f7a4_49 : decode cJ6_numberOfTrailingZeros_0f7a4 49 = .ok (.iload_n 0, 1) := by decide +kernel
theorem dJ6_numberOfTrailingZeros_0f7a4_50 : decode cJ6_numberOfTrailingZeros_0f7a4 50 = .ok (.bipush 16, 2) := by decide +kernel
theorem dJ6_numberOfTrailingZeros_0f7a4_52 : decode cJ6_numberOfTrailingZeros_0f7a4 52 = .ok (.if_icmp .le 10, 3) := by decide +kernel
theorem dJ6_numberOfTrailingZeros_0f7a4_55 : decode cJ6_numberOfTrailingZeros_0f7a4 55 = .ok (.iinc 1 4, 3) := by decide +kernel
theorem dJ6_numberOfTrailingZeros_0f7a4_58 : decode cJ6_numberOfTrailingZeros_0f7a4 58 = .ok (.iload_n 0, 1) := by decide +kernel
theorem dJ6_numberOfTrailingZeros_0f7a4_59 : decode cJ6_numberOfTrailingZeros_0f7a4 59 = .ok (.iconst 4, 1) := by decide +kernel
theorem dJ6_numberOfTrailingZeros_0f7a4_60 : decode cJ6_numberOfTrailingZeros_0f7a4 60 = .ok (.iushr, 1) := by decide +kernel
theorem dJ6_numberOfTrailingZeros_0f7a4_61 : decode cJ6_numberOfTrailingZeros_0f7a4 61 = .ok (.istore_n 0, 1) := by decide +kernel
theorem dJ6_numberOfTrailingZeros_0f7a4_62 : decode cJ6_numberOfTrailingZeros_0f7a4 62 = .ok (.iload_n 0, 1) := by decide +kernel
theorem dJ6_numberOfTrailingZeros_0f7a4_63 : decode cJ6_numberOfTrailingZeros_0f7a4 63 = .ok (.iconst 4, 1) := by decide +kernel
theorem dJ6_numberOfTrailingZeros_0f7a4_64 : decode cJ6_numberOfTrailingZeros_0f7a4 64 = .ok (.if_icmp .le 10, 3) := by decide +kernel
theorem dJ6_numberOfTrailingZeros_0f7a4_67 : decode cJ6_numberOfTrailingZeros_0f7a4 67 = .ok (.iinc 1 2, 3) := by decide +kernel
theorem dJ6_numberOfTrailingZeros_0f7a4_70 : decode cJ6_numberOfTrailingZeros_0f7a4 70 = .ok (.iload_n 0, 1) := by decide +kernel
theorem dJ6_numberOfTrailingZeros_0f7a4_71 : decode cJ6_numberOfTrailingZeros_0f7a4 71 = .ok (.iconst 2, 1) := by decide +kernel
theorem dJ6_numberOfTrailingZeros_0f7a4_72 : decode cJ6_numberOfTrailingZeros_0f7a4 72 = .ok (.iushr, 1) := by decide +kernel
theorem dJ6_numberOfTrailingZeros_0f7a4_73 : decode cJ6_numberOfTrailingZeros_0f7a4 73 = .ok (.istore_n 0, 1) := by decide +kernel
theorem dJ6_numberOfTrailingZeros_0f7a4_74 : decode cJ6_numberOfTrailingZeros_0f7a4 74 = .ok (.iload_n 1, 1) := by decide +kernel
theorem dJ6_numberOfTrailingZeros_0f7a4_75 : decode cJ6_numberOfTrailingZeros_0f7a4 75 = .ok (.iload_n 0, 1) := by decide +kernel
theorem dJ6_numberOfTrailingZeros_0f7a4_76 : decode cJ6_numberOfTrailingZeros_0f7a4 76 = .ok (.iconst 1, 1) := by decide +kernel
theorem dJ6_numberOfTrailingZeros_0f7a4_77 : decode cJ6_numberOfTrailingZeros_0f7a4 77 = .ok (.iushr, 1) := by decide +kernel
theorem dJ6_numberOfTrailingZeros_0f7a4_78 : decode cJ6_numberOfTrailingZeros_0f7a4 78 = .ok (.iadd, 1) := by decide +kernel
theorem dJ6_numberOfTrailingZeros_0f7a4_79 : decode cJ6_numberOfTrailingZeros_0f7a4 79 = .ok (.ireturn, 1) := by decide +kernel
theorem dJ6_bitCount_0f7a4_0 : decode cJ6_bitCount_0f7a4 0 = .ok (.iload_n 0, 1) := by decide +kernel
theorem dJ6_bitCount_0f7a4_1 : decode cJ6_bitCount_0f7a4 1 = .ok (.iload_n 0, 1) := by decide +kernel
theorem dJ6_bitCount_0f7a4_2 : decode cJ6_bitCount_0f7a4 2 = .ok (.iconst 1, 1) := by decide +kernel
theorem dJ6_bitCount_0f7a4_3 : decode cJ6_bitCount_0f7a4 3 = .ok (.iushr, 1) := by decide +kernel
theorem dJ6_bitCount_0f7a4_4 : decode cJ6_bitCount_0f7a4 4 = .ok (.ldc_w 265, 3) := by decide +kernel
theorem dJ6_bitCount_0f7a4_7 : decode cJ6_bitCount_0f7a4 7 = .ok (.iand, 1) := by decide +kernel
theorem dJ6_bitCount_0f7a4_8 : decode cJ6_bitCount_0f7a4 8 = .ok (.isub, 1) := by decide +kernel
theorem dJ6_bitCount_0f7a4_9 : decode cJ6_bitCount_0f7a4 9 = .ok (.istore_n 0, 1) := by decide +kernel
theorem dJ6_bitCount_0f7a4_10 : decode cJ6_bitCount_0f7a4 10 = .ok (.iload_n 0, 1) := by decide +kernel
theorem dJ6_bitCount_0f7a4_11 : decode cJ6_bitCount_0f7a4 11 = .ok (.ldc_w 266, 3) := by decide +kernel
theorem dJ6_bitCount_0f7a4_14 : decode cJ6_bitCount_0f7a4 14 = .ok (.iand, 1) := by decide +kernel
theorem dJ6_bitCount_0f7a4_15 : decode cJ6_bitCount_0f7a4 15 = .ok (.iload_n 0, 1) := by decide +kernel
theorem dJ6_bitCount_0f7a4_16 : decode cJ6_bitCount_0f7a4 16 = .ok (.iconst 2, 1) := by decide +kernel
theorem dJ6_bitCount_0f7a4_17 : decode cJ6_bitCount_0f7a4 17 = .ok (.iushr, 1) := by decide +kernel
theorem dJ6_bitCount_0f7a4_18 : decode cJ6_bitCount_0f7a4 18 = .ok (.ldc_w 266, 3) := by decide +kernel
theorem dJ6_bitCount_0f7a4_21 : decode cJ6_bitCount_0f7a4 21 = .ok (.iand, 1) := by decide +kernel
theorem dJ6_bitCount_0f7a4_22 : decode cJ6_bitCount_0f7a4 22 = .ok (.iadd, 1) := by decide +kernel
theorem dJ6_bitCount_0f7a4_23 : decode cJ6_bitCount_0f7a4 23 = .ok (.istore_n 0, 1) := by decide +kernel
theorem dJ6_bitCount_0f7a4_24 : decode cJ6_bitCount_0f7a4 24 = .ok (.iload_n 0, 1) := by decide +kernel
theorem dJ6_bitCount_0f7a4_25 : decode cJ6_bitCount_0f7a4 25 = .ok (.iload_n 0, 1) := by decide +kernel
theorem dJ6_bitCount_0f7a4_26 : decode cJ6_bitCount_0f7a4 26 = .ok (.iconst 4, 1) := by decide +kernel
theorem dJ6_bitCount_0f7a4_27 : decode cJ6_bitCount_0f7a4 27 = .ok (.iushr, 1) := by decide +kernel
theorem dJ6_bitCount_0f7a4_28 : decode cJ6_bitCount_0f7a4 28 = .ok (.iadd, 1) := by decide +kernel
theorem dJ6_bitCount_0f7a4_29 : decode cJ6_bitCount_0f7a4 29 = .ok (.ldc_w 267, 3) := by decide +kernel
theorem dJ6_bitCount_0f7a4_32 : decode cJ6_bitCount_0f7a4 32 = .ok (.iand, 1) := by decide +kernel
theorem dJ6_bitCount_0f7a4_33 : decode cJ6_bitCount_0f7a4 33 = .ok (.istore_n 0, 1) := by decide +kernel
theorem dJ6_bitCount_0f7a4_34 : decode cJ6_bitCount_0f7a4 34 = .ok (.iload_n 0, 1) := by decide +kernel
theorem dJ6_bitCount_0f7a4_35 : decode cJ6_bitCount_0f7a4 35 = .ok (.iload_n 0, 1) := by decide +kernel
theorem dJ6_bitCount_0f7a4_36 : decode cJ6_bitCount_0f7a4 36 = .ok (.bipush 8, 2) := by decide +kernel
theorem dJ6_bitCount_0f7a4_38 : decode cJ6_bitCount_0f7a4 38 = .ok (.iushr, 1) := by decide +kernel
theorem dJ6_bitCount_0f7a4_39 : decode cJ6_bitCount_0f7a4 39 = .ok (.iadd, 1) := by decide +kernel
theorem dJ6_bitCount_0f7a4_40 : decode cJ6_bitCount_0f7a4 40 = .ok (.istore_n 0, 1) := by decide +kernel
theorem dJ6_bitCount_0f7a4_41 : decode cJ6_bitCount_0f7a4 41 = .ok (.iload_n 0, 1) := by decide +kernel
theorem dJ6_bitCount_0f7a4_42 : decode cJ6_bitCount_0f7a4 42 = .ok (.iload_n 0, 1) := by decide +kernel
theorem dJ6_bitCount_0f7a4_43 : decode cJ6_bitCount_0f7a4 43 = .ok (.bipush 16, 2) := by decide +kernel
theorem dJ6_bitCount_0f7a4_45 : decode cJ6_bitCount_0f7a4 45 = .ok (.iushr, 1) := by decide +kernel
theorem dJ6_bitCount_0f7a4_46 : decode cJ6_bitCount_0f7a4 46 = .ok (.iadd, 1) := by decide +kernel
theorem dJ6_bitCount_0f7a4_47 : decode cJ6_bitCount_0f7a4 47 = .ok (.istore_n 0, 1) := by decide +kernel
theorem dJ6_bitCount_0f7a4_48 : decode cJ6_bitCount_0f7a4 48 = .ok (.iload_n 0, 1) := by decide +kernel
theorem dJ6_bitCount_0f7a4_49 : decode cJ6_bitCount_0f7a4 49 = .ok (.bipush 63, 2) := by decide +kernel
theorem dJ6_bitCount_0f7a4_51 : decode cJ6_bitCount_0f7a4 51 = .ok (.iand, 1) := by decide +kernel
theorem dJ6_bitCount_0f7a4_52 : decode cJ6_bitCount_0f7a4 52 = .ok (.ireturn, 1) := by decide +kernel
theorem dJ13_numberOfTrailingZeros_95d88_0 : decode cJ13_numberOfTrailingZeros_95d88 0 = .ok (.lload_n 0, 1) := by decide +kernel
theorem dJ13_numberOfTrailingZeros_95d88_1 : decode cJ13_numberOfTrailingZeros_95d88 1 = .ok (.l2i, 1) := by decide +kernel
theorem dJ13_numberOfTrailingZeros_95d88_2 : decode cJ13_numberOfTrailingZeros_95d88 2 = .ok (.istore_n 2, 1) := by decide +kernel
theorem dJ13_numberOfTrailingZeros_95d88_3 : decode cJ13_numberOfTrailingZeros_95d88 3 = .ok (.iload_n 2, 1) := by decide +kernel
theorem dJ13_numberOfTrailingZeros_95d88_4 : decode cJ13_numberOfTrailingZeros_95d88 4 = .ok (.ifCond .ne 17, 3) := by decide +kernel
theorem dJ13_numberOfTrailingZeros_95d88_7 : decode cJ13_numberOfTrailingZeros_95d88 7 = .ok (.bipush 32, 2) := by decide +kernel
theorem dJ13_numberOfTrailingZeros_95d88_9 : decode cJ13_numberOfTrailingZeros_95d88 9 = .ok (.lload_n 0, 1) := by decide +kernel
theorem dJ13_numberOfTrailingZeros_95d88_10 : decode cJ13_numberOfTrailingZeros_95d88 10 = .ok (.bipush 32, 2) := by decide +kernel
theorem dJ13_numberOfTrailingZeros_95d88_12 : decode cJ13_numberOfTrailingZeros_95d88 12 = .ok (.lushr, 1) := by decide +kernel
theorem dJ13_numberOfTrailingZeros_95d88_13 : decode cJ13_numberOfTrailingZeros_95d88 13 = .ok (.l2i, 1) := by decide +kernel
theorem dJ13_numberOfTrailingZeros_95d88_14 : decode cJ13_numberOfTrailingZeros_95d88 14 = .ok (.invokestatic 311, 3) := by decide +kernel
theorem dJ13_numberOfTrailingZeros_95d88_17 : decode cJ13_numberOfTrailingZeros_95d88 17 = .ok (.iadd, 1) := by decide +kernel
theorem dJ13_numberOfTrailingZeros_95d88_18 : decode cJ13_numberOfTrailingZeros_95d88 18 = .ok (.goto 7, 3) := by decide +kernel
theorem dJ13_numberOfTrailingZeros_95d88_21 : decode cJ13_numberOfTrailingZeros_95d88 21 = .ok (.iload_n 2, 1) := by decide +kernel
theorem dJ13_numberOfTrailingZeros_95d88_22 : decode cJ13_numberOfTrailingZeros_95d88 22 = .ok (.invokestatic 311, 3) := by decide +kernel
theorem dJ13_numberOfTrailingZeros_95d88_25 : decode cJ13_numberOfTrailingZeros_95d88 25 = .ok (.ireturn, 1) := by decide +kernel
theorem dJ9_max_7cf53_0 : decode cJ9_max_7cf53 0 = .ok (.iload_n 0, 1) := by decide +kernel
theorem dJ9_max_7cf53_1 : decode cJ9_max_7cf53 1 = .ok (.iload_n 1, 1) := by decide +kernel
theorem dJ9_max_7cf53_2 : decode cJ9_max_7cf53 2 = .ok (.if_icmp .lt 7, 3) := by decide +kernel
theorem dJ9_max_7cf53_5 : decode cJ9_max_7cf53 5 = .ok (.iload_n 0, 1) := by decide +kernel
theorem dJ9_max_7cf53_6 : decode cJ9_max_7cf53 6 = .ok (.goto 4, 3) := by decide +kernel
theorem dJ9_max_7cf53_9 : decode cJ9_max_7cf53 9 = .ok (.iload_n 1, 1) := by decide +kernel
theorem dJ9_max_7cf53_10 : decode cJ9_max_7cf53 10 = .ok (.ireturn, 1) := by decide +kernel
theorem dJ9_min_7cf53_0 : decode cJ9_min_7cf53 0 = .ok (.iload_n 0, 1) := by decide +kernel
theorem dJ9_min_7cf53_1 : decode cJ9_min_7cf53 1 = .ok (.iload_n 1, 1) := by decide +kernel
theorem dJ9_min_7cf53_2 : decode cJ9_min_7cf53 2 = .ok (.if_icmp .gt 7, 3) := by decide +kernel
theorem dJ9_min_7cf53_5 : decode cJ9_min_7cf53 5 = .ok (.iload_n 0, 1) := by decide +kernel
theorem dJ9_min_7cf53_6 : decode cJ9_min_7cf53 6 = .ok (.goto 4, 3) := by decide +kernel
theorem dJ9_min_7cf53_9 : decode cJ9_min_7cf53 9 = .ok (.iload_n 1, 1) := by decide +kernel
theorem dJ9_min_7cf53_10 : decode cJ9_min_7cf53 10 = .ok (.ireturn, 1) := by decide +kernel
theorem dJ7_fill_53178_0 : decode cJ7_fill_53178 0 = .ok (.iconst 0, 1) := by decide +kernel
theorem dJ7_fill_53178_1 : decode cJ7_fill_53178 1 = .ok (.istore_n 2, 1) := by decide +kernel
theorem dJ7_fill_53178_2 : decode cJ7_fill_53178 2 = .ok (.aload_n 0, 1) := by decide +kernel
theorem dJ7_fill_53178_3 : decode cJ7_fill_53178 3 = .ok (.arraylength, 1) := by decide +kernel
theorem dJ7_fill_53178_4 : decode cJ7_fill_53178 4 = .ok (.istore_n 3, 1) := by decide +kernel
theorem dJ7_fill_53178_5 : decode cJ7_fill_53178 5 = .ok (.iload_n 2, 1) := by decide +kernel
theorem dJ7_fill_53178_6 : decode cJ7_fill_53178 6 = .ok (.iload_n 3, 1) := by decide +kernel
theorem dJ7_fill_53178_7 : decode cJ7_fill_53178 7 = .ok (.if_icmp .ge 13, 3) := by decide +kernel
theorem dJ7_fill_53178_10 : decode cJ7_fill_53178 10 = .ok (.aload_n 0, 1) := by decide +kernel
theorem dJ7_fill_53178_11 : decode cJ7_fill_53178 11 = .ok (.iload_n 2, 1) := by decide +kernel
theorem dJ7_fill_53178_12 : decode cJ7_fill_53178 12 = .ok (.iload_n 1, 1) := by decide +kernel
theorem dJ7_fill_53178_13 : decode cJ7_fill_53178 13 = .ok (.iastore, 1) := by decide +kernel
theorem dJ7_fill_53178_14 : decode cJ7_fill_53178 14 = .ok (.iinc 2 1, 3) := by decide +kernel
theorem dJ7_fill_53178_17 : decode cJ7_fill_53178 17 = .ok (.goto (-12), 3) := by decide +kernel
theorem dJ7_fill_53178_20 : decode cJ7_fill_53178 20 = .ok (.return_, 1) := by decide +kernel
