theorem dX0_init_0 : decode cX0_init 0 = .ok (.aload_n 0, 1) := by decide +kernel
theorem dX0_init_1 : decode cX0_init 1 = .ok (.invokespecial 3, 3) := by decide +kernel
theorem dX0_init_4 : decode cX0_init 4 = .ok (.aload_n 0, 1) := by decide +kernel
theorem dX0_init_5 : decode cX0_init 5 = .ok (.sipush 512, 3) := by decide +kernel
theorem dX0_init_8 : decode cX0_init 8 = .ok (.newarray .int, 2) := by decide +kernel
theorem dX0_init_10 : decode cX0_init 10 = .ok (.putfield 9, 3) := by decide +kernel
theorem dX0_init_13 : decode cX0_init 13 = .ok (.aload_n 0, 1) := by decide +kernel
theorem dX0_init_14 : decode cX0_init 14 = .ok (.iconst 2, 1) := by decide +kernel
theorem dX0_init_15 : decode cX0_init 15 = .ok (.putfield 15, 3) := by decide +kernel
theorem dX0_init_18 : decode cX0_init 18 = .ok (.iconst 0, 1) := by decide +kernel
theorem dX0_init_19 : decode cX0_init 19 = .ok (.istore_n 1, 1) := by decide +kernel
theorem dX0_init_20 : decode cX0_init 20 = .ok (.iload_n 1, 1) := by decide +kernel
theorem dX0_init_21 : decode cX0_init 21 = .ok (.sipush 512, 3) := by decide +kernel
theorem dX0_init_24 : decode cX0_init 24 = .ok (.if_icmp .ge 22, 3) := by decide +kernel
theorem dX0_init_27 : decode cX0_init 27 = .ok (.aload_n 0, 1) := by decide +kernel
theorem dX0_init_28 : decode cX0_init 28 = .ok (.getfield 9, 3) := by decide +kernel
theorem dX0_init_31 : decode cX0_init 31 = .ok (.iload_n 1, 1) := by decide +kernel
theorem dX0_init_32 : decode cX0_init 32 = .ok (.iconst 1, 1) := by decide +kernel
theorem dX0_init_33 : decode cX0_init 33 = .ok (.iload_n 1, 1) := by decide +kernel
theorem dX0_init_34 : decode cX0_init 34 = .ok (.iconst 1, 1) := by decide +kernel
theorem dX0_init_35 : decode cX0_init 35 = .ok (.iand, 1) := by decide +kernel
theorem dX0_init_36 : decode cX0_init 36 = .ok (.iconst 1, 1) := by decide +kernel
theorem dX0_init_37 : decode cX0_init 37 = .ok (.ishl, 1) := by decide +kernel
theorem dX0_init_38 : decode cX0_init 38 = .ok (.ior, 1) := by decide +kernel
theorem dX0_init_39 : decode cX0_init 39 = .ok (.iastore, 1) := by decide +kernel
theorem dX0_init_40 : decode cX0_init 40 = .ok (.iinc 1 1, 3) := by decide +kernel
theorem dX0_init_43 : decode cX0_init 43 = .ok (.goto (-23), 3) := by decide +kernel
theorem dX0_init_46 : decode cX0_init 46 = .ok (.return_, 1) := by decide +kernel
theorem dX0_take_0 : decode cX0_take 0 = .ok (.aload_n 0, 1) := by decide +kernel
theorem dX0_take_1 : decode cX0_take 1 = .ok (.aload_n 1, 1) := by decide +kernel
theorem dX0_take_2 : decode cX0_take 2 = .ok (.invokevirtual 19, 3) := by decide +kernel
theorem dX0_take_5 : decode cX0_take 5 = .ok (.putfield 15, 3) := by decide +kernel
theorem dX0_take_8 : decode cX0_take 8 = .ok (.iconst 0, 1) := by decide +kernel
theorem dX0_take_9 : decode cX0_take 9 = .ok (.istore_n 2, 1) := by decide +kernel
theorem dX0_take_10 : decode cX0_take 10 = .ok (.iload_n 2, 1) := by decide +kernel
theorem dX0_take_11 : decode cX0_take 11 = .ok (.sipush 512, 3) := by decide +kernel
theorem dX0_take_14 : decode cX0_take 14 = .ok (.if_icmp .ge 20, 3) := by decide +kernel
theorem dX0_take_17 : decode cX0_take 17 = .ok (.aload_n 0, 1) := by decide +kernel
theorem dX0_take_18 : decode cX0_take 18 = .ok (.getfield 9, 3) := by decide +kernel
theorem dX0_take_21 : decode cX0_take 21 = .ok (.iload_n 2, 1) := by decide +kernel
theorem dX0_take_22 : decode cX0_take 22 = .ok (.aload_n 1, 1) := by decide +kernel
theorem dX0_take_23 : decode cX0_take 23 = .ok (.iload_n 2, 1) := by decide +kernel
theorem dX0_take_24 : decode cX0_take 24 = .ok (.invokevirtual 25, 3) := by decide +kernel
theorem dX0_take_27 : decode cX0_take 27 = .ok (.iastore, 1) := by decide +kernel
theorem dX0_take_28 : decode cX0_take 28 = .ok (.iinc 2 1, 3) := by decide +kernel
theorem dX0_take_31 : decode cX0_take 31 = .ok (.goto (-21), 3) := by decide +kernel
theorem dX0_take_34 : decode cX0_take 34 = .ok (.return_, 1) := by decide +kernel
theorem dX0_count_0 : decode cX0_count 0 = .ok (.aload_n 0, 1) := by decide +kernel
theorem dX0_count_1 : decode cX0_count 1 = .ok (.getfield 15, 3) := by decide +kernel
theorem dX0_count_4 : decode cX0_count 4 = .ok (.ireturn, 1) := by decide +kernel
theorem dX0_chest_0 : decode cX0_chest 0 = .ok (.aload_n 0, 1) := by decide +kernel
theorem dX0_chest_1 : decode cX0_chest 1 = .ok (.getfield 15, 3) := by decide +kernel
theorem dX0_chest_4 : decode cX0_chest 4 = .ok (.iconst 1, 1) := by decide +kernel
theorem dX0_chest_5 : decode cX0_chest 5 = .ok (.isub, 1) := by decide +kernel
theorem dX0_chest_6 : decode cX0_chest 6 = .ok (.ireturn, 1) := by decide +kernel
theorem dX0_allPlaces_0 : decode cX0_allPlaces 0 = .ok (.iconst 1, 1) := by decide +kernel
theorem dX0_allPlaces_1 : decode cX0_allPlaces 1 = .ok (.aload_n 0, 1) := by decide +kernel
theorem dX0_allPlaces_2 : decode cX0_allPlaces 2 = .ok (.getfield 15, 3) := by decide +kernel
theorem dX0_allPlaces_5 : decode cX0_allPlaces 5 = .ok (.ishl, 1) := by decide +kernel
theorem dX0_allPlaces_6 : decode cX0_allPlaces 6 = .ok (.iconst 1, 1) := by decide +kernel
theorem dX0_allPlaces_7 : decode cX0_allPlaces 7 = .ok (.isub, 1) := by decide +kernel
theorem dX0_allPlaces_8 : decode cX0_allPlaces 8 = .ok (.ireturn, 1) := by decide +kernel
theorem dX0_hasPlace_0 : decode cX0_hasPlace 0 = .ok (.iload_n 1, 1) := by decide +kernel
theorem dX0_hasPlace_1 : decode cX0_hasPlace 1 = .ok (.ifCond .lt 15, 3) := by decide +kernel
theorem dX0_hasPlace_4 : decode cX0_hasPlace 4 = .ok (.iload_n 1, 1) := by decide +kernel
theorem dX0_hasPlace_5 : decode cX0_hasPlace 5 = .ok (.aload_n 0, 1) := by decide +kernel
theorem dX0_hasPlace_6 : decode cX0_hasPlace 6 = .ok (.getfield 15, 3) := by decide +kernel
theorem dX0_hasPlace_9 : decode cX0_hasPlace 9 = .ok (.if_icmp .ge 7, 3) := by decide +kernel
theorem dX0_hasPlace_12 : decode cX0_hasPlace 12 = .ok (.iconst 1, 1) := by decide +kernel
theorem dX0_hasPlace_13 : decode cX0_hasPlace 13 = .ok (.goto 4, 3) := by decide +kernel
theorem dX0_hasPlace_16 : decode cX0_hasPlace 16 = .ok (.iconst 0, 1) := by decide +kernel
theorem dX0_hasPlace_17 : decode cX0_hasPlace 17 = .ok (.ireturn, 1) := by decide +kernel
theorem dX0_hasChest_0 : decode cX0_hasChest 0 = .ok (.iload_n 1, 1) := by decide +kernel
theorem dX0_hasChest_1 : decode cX0_hasChest 1 = .ok (.aload_n 0, 1) := by decide +kernel
theorem dX0_hasChest_2 : decode cX0_hasChest 2 = .ok (.getfield 15, 3) := by decide +kernel
theorem dX0_hasChest_5 : decode cX0_hasChest 5 = .ok (.iconst 1, 1) := by decide +kernel
theorem dX0_hasChest_6 : decode cX0_hasChest 6 = .ok (.isub, 1) := by decide +kernel
theorem dX0_hasChest_7 : decode cX0_hasChest 7 = .ok (.ishr, 1) := by decide +kernel
theorem dX0_hasChest_8 : decode cX0_hasChest 8 = .ok (.iconst 1, 1) := by decide +kernel
theorem dX0_hasChest_9 : decode cX0_hasChest 9 = .ok (.iand, 1) := by decide +kernel
theorem dX0_hasChest_10 : decode cX0_hasChest 10 = .ok (.ifCond .eq 7, 3) := by decide +kernel
theorem dX0_hasChest_13 : decode cX0_hasChest 13 = .ok (.iconst 1, 1) := by decide +kernel
theorem dX0_hasChest_14 : decode cX0_hasChest 14 = .ok (.goto 4, 3) := by decide +kernel
theorem dX0_hasChest_17 : decode cX0_hasChest 17 = .ok (.iconst 0, 1) := by decide +kernel
theorem dX0_hasChest_18 : decode cX0_hasChest 18 = .ok (.ireturn, 1) := by decide +kernel
theorem dX0_isHeld_0 : decode cX0_isHeld 0 = .ok (.iload_n 1, 1) := by decide +kernel
theorem dX0_isHeld_1 : decode cX0_isHeld 1 = .ok (.aload_n 0, 1) := by decide +kernel
theorem dX0_isHeld_2 : decode cX0_isHeld 2 = .ok (.getfield 9, 3) := by decide +kernel
theorem dX0_isHeld_5 : decode cX0_isHeld 5 = .ok (.iload_n 2, 1) := by decide +kernel
theorem dX0_isHeld_6 : decode cX0_isHeld 6 = .ok (.sipush 511, 3) := by decide +kernel
theorem dX0_isHeld_9 : decode cX0_isHeld 9 = .ok (.iand, 1) := by decide +kernel
theorem dX0_isHeld_10 : decode cX0_isHeld 10 = .ok (.iaload, 1) := by decide +kernel
theorem dX0_isHeld_11 : decode cX0_isHeld 11 = .ok (.iload_n 3, 1) := by decide +kernel
theorem dX0_isHeld_12 : decode cX0_isHeld 12 = .ok (.ior, 1) := by decide +kernel
theorem dX0_isHeld_13 : decode cX0_isHeld 13 = .ok (.invokestatic 29, 3) := by decide +kernel
theorem dX0_isHeld_16 : decode cX0_isHeld 16 = .ok (.ireturn, 1) := by decide +kernel
theorem dX0_openAfter_0 : decode cX0_openAfter 0 = .ok (.iload_n 1, 1) := by decide +kernel
theorem dX0_openAfter_1 : decode cX0_openAfter 1 = .ok (.aload_n 0, 1) := by decide +kernel
theorem dX0_openAfter_2 : decode cX0_openAfter 2 = .ok (.getfield 15, 3) := by decide +kernel
theorem dX0_openAfter_5 : decode cX0_openAfter 5 = .ok (.iconst 1, 1) := by decide +kernel
theorem dX0_openAfter_6 : decode cX0_openAfter 6 = .ok (.isub, 1) := by decide +kernel
theorem dX0_openAfter_7 : decode cX0_openAfter 7 = .ok (.ishr, 1) := by decide +kernel
theorem dX0_openAfter_8 : decode cX0_openAfter 8 = .ok (.iconst 1, 1) := by decide +kernel
theorem dX0_openAfter_9 : decode cX0_openAfter 9 = .ok (.iand, 1) := by decide +kernel
theorem dX0_openAfter_10 : decode cX0_openAfter 10 = .ok (.ifCond .eq 7, 3) := by decide +kernel
theorem dX0_openAfter_13 : decode cX0_openAfter 13 = .ok (.iconst 1, 1) := by decide +kernel
theorem dX0_openAfter_14 : decode cX0_openAfter 14 = .ok (.goto 4, 3) := by decide +kernel
theorem dX0_openAfter_17 : decode cX0_openAfter 17 = .ok (.iconst 0, 1) := by decide +kernel
theorem dX0_openAfter_18 : decode cX0_openAfter 18 = .ok (.istore_n 3, 1) := by decide +kernel
theorem dX0_openAfter_19 : decode cX0_openAfter 19 = .ok (.iload_n 3, 1) := by decide +kernel
theorem dX0_openAfter_20 : decode cX0_openAfter 20 = .ok (.ifCond .eq 7, 3) := by decide +kernel
theorem dX0_openAfter_23 : decode cX0_openAfter 23 = .ok (.iconst 0, 1) := by decide +kernel
theorem dX0_openAfter_24 : decode cX0_openAfter 24 = .ok (.goto 19, 3) := by decide +kernel
theorem dX0_openAfter_27 : decode cX0_openAfter 27 = .ok (.aload_n 0, 1) := by decide +kernel
theorem dX0_openAfter_28 : decode cX0_openAfter 28 = .ok (.getfield 9, 3) := by decide +kernel
theorem dX0_openAfter_31 : decode cX0_openAfter 31 = .ok (.iload_n 1, 1) := by decide +kernel
theorem dX0_openAfter_32 : decode cX0_openAfter 32 = .ok (.sipush 511, 3) := by decide +kernel
theorem dX0_openAfter_35 : decode cX0_openAfter 35 = .ok (.iand, 1) := by decide +kernel
theorem dX0_openAfter_36 : decode cX0_openAfter 36 = .ok (.iaload, 1) := by decide +kernel
theorem dX0_openAfter_37 : decode cX0_openAfter 37 = .ok (.iload_n 2, 1) := by decide +kernel
theorem dX0_openAfter_38 : decode cX0_openAfter 38 = .ok (.ior, 1) := by decide +kernel
theorem dX0_openAfter_39 : decode cX0_openAfter 39 = .ok (.iload_n 1, 1) := by decide +kernel
theorem dX0_openAfter_40 : decode cX0_openAfter 40 = .ok (.iconst (-1), 1) := by decide +kernel
theorem dX0_openAfter_41 : decode cX0_openAfter 41 = .ok (.ixor, 1) := by decide +kernel
theorem dX0_openAfter_42 : decode cX0_openAfter 42 = .ok (.iand, 1) := by decide +kernel
theorem dX0_openAfter_43 : decode cX0_openAfter 43 = .ok (.ireturn, 1) := by decide +kernel
theorem dX1_init_0 : decode cX1_init 0 = .ok (.aload_n 0, 1) := by decide +kernel
theorem dX1_init_1 : decode cX1_init 1 = .ok (.invokespecial 3, 3) := by decide +kernel
theorem dX1_init_4 : decode cX1_init 4 = .ok (.aload_n 0, 1) := by decide +kernel
theorem dX1_init_5 : decode cX1_init 5 = .ok (.bipush 14, 2) := by decide +kernel
theorem dX1_init_7 : decode cX1_init 7 = .ok (.anewarray 9, 3) := by decide +kernel
theorem dX1_init_10 : decode cX1_init 10 = .ok (.putfield 11, 3) := by decide +kernel
theorem dX1_init_13 : decode cX1_init 13 = .ok (.iconst 0, 1) := by decide +kernel
theorem dX1_init_14 : decode cX1_init 14 = .ok (.istore_n 2, 1) := by decide +kernel
theorem dX1_init_15 : decode cX1_init 15 = .ok (.iload_n 2, 1) := by decide +kernel
theorem dX1_init_16 : decode cX1_init 16 = .ok (.bipush 14, 2) := by decide +kernel
theorem dX1_init_18 : decode cX1_init 18 = .ok (.if_icmp .ge 23, 3) := by decide +kernel
theorem dX1_init_21 : decode cX1_init 21 = .ok (.aload_n 0, 1) := by decide +kernel
theorem dX1_init_22 : decode cX1_init 22 = .ok (.getfield 11, 3) := by decide +kernel
theorem dX1_init_25 : decode cX1_init 25 = .ok (.iload_n 2, 1) := by decide +kernel
theorem dX1_init_26 : decode cX1_init 26 = .ok (.new 9, 3) := by decide +kernel
theorem dX1_init_29 : decode cX1_init 29 = .ok (.dup, 1) := by decide +kernel
theorem dX1_init_30 : decode cX1_init 30 = .ok (.aload_n 1, 1) := by decide +kernel
theorem dX1_init_31 : decode cX1_init 31 = .ok (.invokespecial 17, 3) := by decide +kernel
theorem dX1_init_34 : decode cX1_init 34 = .ok (.aastore, 1) := by decide +kernel
theorem dX1_init_35 : decode cX1_init 35 = .ok (.iinc 2 1, 3) := by decide +kernel
theorem dX1_init_38 : decode cX1_init 38 = .ok (.goto (-23), 3) := by decide +kernel
theorem dX1_init_41 : decode cX1_init 41 = .ok (.return_, 1) := by decide +kernel
theorem dX1_isEmpty_0 : decode cX1_isEmpty 0 = .ok (.aload_n 0, 1) := by decide +kernel
theorem dX1_isEmpty_1 : decode cX1_isEmpty 1 = .ok (.getfield 20, 3) := by decide +kernel
theorem dX1_isEmpty_4 : decode cX1_isEmpty 4 = .ok (.ifCond .ne 7, 3) := by decide +kernel
theorem dX1_isEmpty_7 : decode cX1_isEmpty 7 = .ok (.iconst 1, 1) := by decide +kernel
theorem dX1_isEmpty_8 : decode cX1_isEmpty 8 = .ok (.goto 4, 3) := by decide +kernel
theorem dX1_isEmpty_11 : decode cX1_isEmpty 11 = .ok (.iconst 0, 1) := by decide +kernel
theorem dX1_isEmpty_12 : decode cX1_isEmpty 12 = .ok (.ireturn, 1) := by decide +kernel
theorem dX1_forget_0 : decode cX1_forget 0 = .ok (.aload_n 0, 1) := by decide +kernel
theorem dX1_forget_1 : decode cX1_forget 1 = .ok (.iconst 0, 1) := by decide +kernel
theorem dX1_forget_2 : decode cX1_forget 2 = .ok (.putfield 20, 3) := by decide +kernel
theorem dX1_forget_5 : decode cX1_forget 5 = .ok (.return_, 1) := by decide +kernel
theorem dX1_keep_0 : decode cX1_keep 0 = .ok (.aload_n 0, 1) := by decide +kernel
theorem dX1_keep_1 : decode cX1_keep 1 = .ok (.getfield 11, 3) := by decide +kernel
theorem dX1_keep_4 : decode cX1_keep 4 = .ok (.aload_n 0, 1) := by decide +kernel
theorem dX1_keep_5 : decode cX1_keep 5 = .ok (.getfield 24, 3) := by decide +kernel
theorem dX1_keep_8 : decode cX1_keep 8 = .ok (.aaload, 1) := by decide +kernel
theorem dX1_keep_9 : decode cX1_keep 9 = .ok (.aload_n 1, 1) := by decide +kernel
theorem dX1_keep_10 : decode cX1_keep 10 = .ok (.invokevirtual 27, 3) := by decide +kernel
theorem dX1_keep_13 : decode cX1_keep 13 = .ok (.aload_n 0, 1) := by decide +kernel
theorem dX1_keep_14 : decode cX1_keep 14 = .ok (.aload_n 0, 1) := by decide +kernel
theorem dX1_keep_15 : decode cX1_keep 15 = .ok (.getfield 24, 3) := by decide +kernel
theorem dX1_keep_18 : decode cX1_keep 18 = .ok (.iconst 1, 1) := by decide +kernel
theorem dX1_keep_19 : decode cX1_keep 19 = .ok (.iadd, 1) := by decide +kernel
theorem dX1_keep_20 : decode cX1_keep 20 = .ok (.bipush 14, 2) := by decide +kernel
theorem dX1_keep_22 : decode cX1_keep 22 = .ok (.irem, 1) := by decide +kernel
theorem dX1_keep_23 : decode cX1_keep 23 = .ok (.putfield 24, 3) := by decide +kernel
theorem dX1_keep_26 : decode cX1_keep 26 = .ok (.aload_n 0, 1) := by decide +kernel
theorem dX1_keep_27 : decode cX1_keep 27 = .ok (.aload_n 0, 1) := by decide +kernel
theorem dX1_keep_28 : decode cX1_keep 28 = .ok (.getfield 20, 3) := by decide +kernel
theorem dX1_keep_31 : decode cX1_keep 31 = .ok (.iconst 1, 1) := by decide +kernel
theorem dX1_keep_32 : decode cX1_keep 32 = .ok (.iadd, 1) := by decide +kernel
theorem dX1_keep_33 : decode cX1_keep 33 = .ok (.bipush 14, 2) := by decide +kernel
theorem dX1_keep_35 : decode cX1_keep 35 = .ok (.invokestatic 31, 3) := by decide +kernel
theorem dX1_keep_38 : decode cX1_keep 38 = .ok (.putfield 20, 3) := by decide +kernel
theorem dX1_keep_41 : decode cX1_keep 41 = .ok (.return_, 1) := by decide +kernel
theorem dX1_takeBack_0 : decode cX1_takeBack 0 = .ok (.aload_n 0, 1) := by decide +kernel
theorem dX1_takeBack_1 : decode cX1_takeBack 1 = .ok (.getfield 20, 3) := by decide +kernel
theorem dX1_takeBack_4 : decode cX1_takeBack 4 = .ok (.ifCond .le 42, 3) := by decide +kernel
theorem dX1_takeBack_7 : decode cX1_takeBack 7 = .ok (.aload_n 0, 1) := by decide +kernel
theorem dX1_takeBack_8 : decode cX1_takeBack 8 = .ok (.aload_n 0, 1) := by decide +kernel
theorem dX1_takeBack_9 : decode cX1_takeBack 9 = .ok (.getfield 24, 3) := by decide +kernel
theorem dX1_takeBack_12 : decode cX1_takeBack 12 = .ok (.bipush 14, 2) := by decide +kernel
theorem dX1_takeBack_14 : decode cX1_takeBack 14 = .ok (.iadd, 1) := by decide +kernel
theorem dX1_takeBack_15 : decode cX1_takeBack 15 = .ok (.iconst 1, 1) := by decide +kernel
theorem dX1_takeBack_16 : decode cX1_takeBack 16 = .ok (.isub, 1) := by decide +kernel
theorem dX1_takeBack_17 : decode cX1_takeBack 17 = .ok (.bipush 14, 2) := by decide +kernel
theorem dX1_takeBack_19 : decode cX1_takeBack 19 = .ok (.irem, 1) := by decide +kernel
theorem dX1_takeBack_20 : decode cX1_takeBack 20 = .ok (.putfield 24, 3) := by decide +kernel
theorem dX1_takeBack_23 : decode cX1_takeBack 23 = .ok (.aload_n 1, 1) := by decide +kernel
theorem dX1_takeBack_24 : decode cX1_takeBack 24 = .ok (.aload_n 0, 1) := by decide +kernel
theorem dX1_takeBack_25 : decode cX1_takeBack 25 = .ok (.getfield 11, 3) := by decide +kernel
theorem dX1_takeBack_28 : decode cX1_takeBack 28 = .ok (.aload_n 0, 1) := by decide +kernel
theorem dX1_takeBack_29 : decode cX1_takeBack 29 = .ok (.getfield 24, 3) := by decide +kernel
theorem dX1_takeBack_32 : decode cX1_takeBack 32 = .ok (.aaload, 1) := by decide +kernel
theorem dX1_takeBack_33 : decode cX1_takeBack 33 = .ok (.invokevirtual 27, 3) := by decide +kernel
theorem dX1_takeBack_36 : decode cX1_takeBack 36 = .ok (.aload_n 0, 1) := by decide +kernel
theorem dX1_takeBack_37 : decode cX1_takeBack 37 = .ok (.dup, 1) := by decide +kernel
theorem dX1_takeBack_38 : decode cX1_takeBack 38 = .ok (.getfield 20, 3) := by decide +kernel
theorem dX1_takeBack_41 : decode cX1_takeBack 41 = .ok (.iconst 1, 1) := by decide +kernel
theorem dX1_takeBack_42 : decode cX1_takeBack 42 = .ok (.isub, 1) := by decide +kernel
theorem dX1_takeBack_43 : decode cX1_takeBack 43 = .ok (.putfield 20, 3) := by decide +kernel
theorem dX1_takeBack_46 : decode cX1_takeBack 46 = .ok (.aload_n 0, 1) := by decide +kernel
theorem dX1_takeBack_47 : decode cX1_takeBack 47 = .ok (.getfield 20, 3) := by decide +kernel
theorem dX1_takeBack_50 : decode cX1_takeBack 50 = .ok (.ireturn, 1) := by decide +kernel
theorem dX2_init_0 : decode cX2_init 0 = .ok (.aload_n 0, 1) := by decide +kernel
theorem dX2_init_1 : decode cX2_init 1 = .ok (.invokespecial 3, 3) := by decide +kernel
theorem dX2_init_4 : decode cX2_init 4 = .ok (.aload_n 0, 1) := by decide +kernel
theorem dX2_init_5 : decode cX2_init 5 = .ok (.new 9, 3) := by decide +kernel
theorem dX2_init_8 : decode cX2_init 8 = .ok (.dup, 1) := by decide +kernel
theorem dX2_init_9 : decode cX2_init 9 = .ok (.invokespecial 11, 3) := by decide +kernel
theorem dX2_init_12 : decode cX2_init 12 = .ok (.putfield 12, 3) := by decide +kernel
theorem dX2_init_15 : decode cX2_init 15 = .ok (.aload_n 0, 1) := by decide +kernel
theorem dX2_init_16 : decode cX2_init 16 = .ok (.bipush 10, 2) := by decide +kernel
theorem dX2_init_18 : decode cX2_init 18 = .ok (.newarray .int, 2) := by decide +kernel
theorem dX2_init_20 : decode cX2_init 20 = .ok (.putfield 18, 3) := by decide +kernel
theorem dX2_init_23 : decode cX2_init 23 = .ok (.aload_n 0, 1) := by decide +kernel
theorem dX2_init_24 : decode cX2_init 24 = .ok (.bipush 10, 2) := by decide +kernel
theorem dX2_init_26 : decode cX2_init 26 = .ok (.newarray .int, 2) := by decide +kernel
theorem dX2_init_28 : decode cX2_init 28 = .ok (.putfield 22, 3) := by decide +kernel
theorem dX2_init_31 : decode cX2_init 31 = .ok (.aload_n 0, 1) := by decide +kernel
theorem dX2_init_32 : decode cX2_init 32 = .ok (.bipush 80, 2) := by decide +kernel
theorem dX2_init_34 : decode cX2_init 34 = .ok (.newarray .long, 2) := by decide +kernel
theorem dX2_init_36 : decode cX2_init 36 = .ok (.putfield 25, 3) := by decide +kernel
theorem dX2_init_39 : decode cX2_init 39 = .ok (.aload_n 0, 1) := by decide +kernel
theorem dX2_init_40 : decode cX2_init 40 = .ok (.bipush 121, 2) := by decide +kernel
theorem dX2_init_42 : decode cX2_init 42 = .ok (.newarray .int, 2) := by decide +kernel
theorem dX2_init_44 : decode cX2_init 44 = .ok (.putfield 29, 3) := by decide +kernel
theorem dX2_init_47 : decode cX2_init 47 = .ok (.aload_n 0, 1) := by decide +kernel
theorem dX2_init_48 : decode cX2_init 48 = .ok (.bipush 121, 2) := by decide +kernel
theorem dX2_init_50 : decode cX2_init 50 = .ok (.newarray .int, 2) := by decide +kernel
theorem dX2_init_52 : decode cX2_init 52 = .ok (.putfield 32, 3) := by decide +kernel
theorem dX2_init_55 : decode cX2_init 55 = .ok (.aload_n 0, 1) := by decide +kernel
theorem dX2_init_56 : decode cX2_init 56 = .ok (.bipush 121, 2) := by decide +kernel
theorem dX2_init_58 : decode cX2_init 58 = .ok (.newarray .boolean, 2) := by decide +kernel
theorem dX2_init_60 : decode cX2_init 60 = .ok (.putfield 35, 3) := by decide +kernel
theorem dX2_init_63 : decode cX2_init 63 = .ok (.aload_n 0, 1) := by decide +kernel
theorem dX2_init_64 : decode cX2_init 64 = .ok (.bipush 121, 2) := by decide +kernel
theorem dX2_init_66 : decode cX2_init 66 = .ok (.newarray .boolean, 2) := by decide +kernel
theorem dX2_init_68 : decode cX2_init 68 = .ok (.putfield 39, 3) := by decide +kernel
theorem dX2_init_71 : decode cX2_init 71 = .ok (.aload_n 0, 1) := by decide +kernel
theorem dX2_init_72 : decode cX2_init 72 = .ok (.bipush 121, 2) := by decide +kernel
theorem dX2_init_74 : decode cX2_init 74 = .ok (.newarray .boolean, 2) := by decide +kernel
theorem dX2_init_76 : decode cX2_init 76 = .ok (.putfield 42, 3) := by decide +kernel
theorem dX2_init_79 : decode cX2_init 79 = .ok (.return_, 1) := by decide +kernel
theorem dX2_errorIn_0 : decode cX2_errorIn 0 = .ok (.aload_n 0, 1) := by decide +kernel
theorem dX2_errorIn_1 : decode cX2_errorIn 1 = .ok (.iconst 0, 1) := by decide +kernel
theorem dX2_errorIn_2 : decode cX2_errorIn 2 = .ok (.putfield 45, 3) := by decide +kernel
theorem dX2_errorIn_5 : decode cX2_errorIn 5 = .ok (.aload_n 0, 1) := by decide +kernel
theorem dX2_errorIn_6 : decode cX2_errorIn 6 = .ok (.iconst 0, 1) := by decide +kernel
theorem dX2_errorIn_7 : decode cX2_errorIn 7 = .ok (.putfield 49, 3) := by decide +kernel
theorem dX2_errorIn_10 : decode cX2_errorIn 10 = .ok (.aload_n 1, 1) := by decide +kernel
theorem dX2_errorIn_11 : decode cX2_errorIn 11 = .ok (.invokevirtual 52, 3) := by decide +kernel
theorem dX2_errorIn_14 : decode cX2_errorIn 14 = .ok (.istore_n 2, 1) := by decide +kernel
theorem dX2_errorIn_15 : decode cX2_errorIn 15 = .ok (.iconst 0, 1) := by decide +kernel
theorem dX2_errorIn_16 : decode cX2_errorIn 16 = .ok (.istore_n 3, 1) := by decide +kernel
theorem dX2_errorIn_17 : decode cX2_errorIn 17 = .ok (.iload_n 3, 1) := by decide +kernel
theorem dX2_errorIn_18 : decode cX2_errorIn 18 = .ok (.iload_n 2, 1) := by decide +kernel
theorem dX2_errorIn_19 : decode cX2_errorIn 19 = .ok (.if_icmp .ge 23, 3) := by decide +kernel
theorem dX2_errorIn_22 : decode cX2_errorIn 22 = .ok (.aload_n 0, 1) := by decide +kernel
theorem dX2_errorIn_23 : decode cX2_errorIn 23 = .ok (.aload_n 1, 1) := by decide +kernel
theorem dX2_errorIn_24 : decode cX2_errorIn 24 = .ok (.iload_n 3, 1) := by decide +kernel
theorem dX2_errorIn_25 : decode cX2_errorIn 25 = .ok (.invokevirtual 58, 3) := by decide +kernel
theorem dX2_errorIn_28 : decode cX2_errorIn 28 = .ok (.invokevirtual 62, 3) := by decide +kernel
theorem dX2_errorIn_31 : decode cX2_errorIn 31 = .ok (.ifCond .ne 5, 3) := by decide +kernel
theorem dX2_errorIn_34 : decode cX2_errorIn 34 = .ok (.iload_n 3, 1) := by decide +kernel
theorem dX2_errorIn_35 : decode cX2_errorIn 35 = .ok (.ireturn, 1) := by decide +kernel
theorem dX2_errorIn_36 : decode cX2_errorIn 36 = .ok (.iinc 3 1, 3) := by decide +kernel
theorem dX2_errorIn_39 : decode cX2_errorIn 39 = .ok (.goto (-22), 3) := by decide +kernel
theorem dX2_errorIn_42 : decode cX2_errorIn 42 = .ok (.aload_n 0, 1) := by decide +kernel
theorem dX2_errorIn_43 : decode cX2_errorIn 43 = .ok (.getfield 49, 3) := by decide +kernel
theorem dX2_errorIn_46 : decode cX2_errorIn 46 = .ok (.bipush 6, 2) := by decide +kernel
theorem dX2_errorIn_48 : decode cX2_errorIn 48 = .ok (.if_icmp .ne 18, 3) := by decide +kernel
theorem dX2_errorIn_51 : decode cX2_errorIn 51 = .ok (.aload_n 0, 1) := by decide +kernel
theorem dX2_errorIn_52 : decode cX2_errorIn 52 = .ok (.getfield 66, 3) := by decide +kernel
theorem dX2_errorIn_55 : decode cX2_errorIn 55 = .ok (.ifCond .ne 11, 3) := by decide +kernel
theorem dX2_errorIn_58 : decode cX2_errorIn 58 = .ok (.aload_n 0, 1) := by decide +kernel
theorem dX2_errorIn_59 : decode cX2_errorIn 59 = .ok (.getfield 45, 3) := by decide +kernel
theorem dX2_errorIn_62 : decode cX2_errorIn 62 = .ok (.iconst 2, 1) := by decide +kernel
theorem dX2_errorIn_63 : decode cX2_errorIn 63 = .ok (.if_icmp .ge 5, 3) := by decide +kernel
theorem dX2_errorIn_66 : decode cX2_errorIn 66 = .ok (.iload_n 2, 1) := by decide +kernel
theorem dX2_errorIn_67 : decode cX2_errorIn 67 = .ok (.ireturn, 1) := by decide +kernel
theorem dX2_errorIn_68 : decode cX2_errorIn 68 = .ok (.aload_n 0, 1) := by decide +kernel
theorem dX2_errorIn_69 : decode cX2_errorIn 69 = .ok (.invokevirtual 69, 3) := by decide +kernel
theorem dX2_errorIn_72 : decode cX2_errorIn 72 = .ok (.aload_n 0, 1) := by decide +kernel
theorem dX2_errorIn_73 : decode cX2_errorIn 73 = .ok (.invokevirtual 72, 3) := by decide +kernel
theorem dX2_errorIn_76 : decode cX2_errorIn 76 = .ok (.bipush (-9), 2) := by decide +kernel
theorem dX2_errorIn_78 : decode cX2_errorIn 78 = .ok (.ireturn, 1) := by decide +kernel
theorem dX2_count_0 : decode cX2_count 0 = .ok (.aload_n 0, 1) := by decide +kernel
theorem dX2_count_1 : decode cX2_count 1 = .ok (.getfield 45, 3) := by decide +kernel
theorem dX2_count_4 : decode cX2_count 4 = .ok (.ireturn, 1) := by decide +kernel
theorem dX2_xOf_0 : decode cX2_xOf 0 = .ok (.iload_n 1, 1) := by decide +kernel
theorem dX2_xOf_1 : decode cX2_xOf 1 = .ok (.ifCond .lt 18, 3) := by decide +kernel
theorem dX2_xOf_4 : decode cX2_xOf 4 = .ok (.iload_n 1, 1) := by decide +kernel
theorem dX2_xOf_5 : decode cX2_xOf 5 = .ok (.bipush 10, 2) := by decide +kernel
theorem dX2_xOf_7 : decode cX2_xOf 7 = .ok (.if_icmp .ge 12, 3) := by decide +kernel
theorem dX2_xOf_10 : decode cX2_xOf 10 = .ok (.aload_n 0, 1) := by decide +kernel
theorem dX2_xOf_11 : decode cX2_xOf 11 = .ok (.getfield 18, 3) := by decide +kernel
theorem dX2_xOf_14 : decode cX2_xOf 14 = .ok (.iload_n 1, 1) := by decide +kernel
theorem dX2_xOf_15 : decode cX2_xOf 15 = .ok (.iaload, 1) := by decide +kernel
theorem dX2_xOf_16 : decode cX2_xOf 16 = .ok (.goto 4, 3) := by decide +kernel
theorem dX2_xOf_19 : decode cX2_xOf 19 = .ok (.iconst 0, 1) := by decide +kernel
theorem dX2_xOf_20 : decode cX2_xOf 20 = .ok (.ireturn, 1) := by decide +kernel
theorem dX2_yOf_0 : decode cX2_yOf 0 = .ok (.iload_n 1, 1) := by decide +kernel
theorem dX2_yOf_1 : decode cX2_yOf 1 = .ok (.ifCond .lt 18, 3) := by decide +kernel
theorem dX2_yOf_4 : decode cX2_yOf 4 = .ok (.iload_n 1, 1) := by decide +kernel
theorem dX2_yOf_5 : decode cX2_yOf 5 = .ok (.bipush 10, 2) := by decide +kernel
theorem dX2_yOf_7 : decode cX2_yOf 7 = .ok (.if_icmp .ge 12, 3) := by decide +kernel
theorem dX2_yOf_10 : decode cX2_yOf 10 = .ok (.aload_n 0, 1) := by decide +kernel
theorem dX2_yOf_11 : decode cX2_yOf 11 = .ok (.getfield 22, 3) := by decide +kernel
theorem dX2_yOf_14 : decode cX2_yOf 14 = .ok (.iload_n 1, 1) := by decide +kernel
theorem dX2_yOf_15 : decode cX2_yOf 15 = .ok (.iaload, 1) := by decide +kernel
theorem dX2_yOf_16 : decode cX2_yOf 16 = .ok (.goto 4, 3) := by decide +kernel
theorem dX2_yOf_19 : decode cX2_yOf 19 = .ok (.iconst 0, 1) := by decide +kernel
theorem dX2_yOf_20 : decode cX2_yOf 20 = .ok (.ireturn, 1) := by decide +kernel
theorem dX2_heldFor_0 : decode cX2_heldFor 0 = .ok (.iload_n 1, 1) := by decide +kernel
theorem dX2_heldFor_1 : decode cX2_heldFor 1 = .ok (.bipush 64, 2) := by decide +kernel
theorem dX2_heldFor_3 : decode cX2_heldFor 3 = .ok (.idiv, 1) := by decide +kernel
theorem dX2_heldFor_4 : decode cX2_heldFor 4 = .ok (.bipush 8, 2) := by decide +kernel
theorem dX2_heldFor_6 : decode cX2_heldFor 6 = .ok (.irem, 1) := by decide +kernel
theorem dX2_heldFor_7 : decode cX2_heldFor 7 = .ok (.istore_n 2, 1) := by decide +kernel
theorem dX2_heldFor_8 : decode cX2_heldFor 8 = .ok (.iconst 0, 1) := by decide +kernel
theorem dX2_heldFor_9 : decode cX2_heldFor 9 = .ok (.istore_n 3, 1) := by decide +kernel
theorem dX2_heldFor_10 : decode cX2_heldFor 10 = .ok (.iconst 0, 1) := by decide +kernel
theorem dX2_heldFor_11 : decode cX2_heldFor 11 = .ok (.istore 4, 2) := by decide +kernel
theorem dX2_heldFor_13 : decode cX2_heldFor 13 = .ok (.iload 4, 2) := by decide +kernel
theorem dX2_heldFor_15 : decode cX2_heldFor 15 = .ok (.aload_n 0, 1) := by decide +kernel
theorem dX2_heldFor_16 : decode cX2_heldFor 16 = .ok (.getfield 45, 3) := by decide +kernel
theorem dX2_heldFor_19 : decode cX2_heldFor 19 = .ok (.if_icmp .ge 40, 3) := by decide +kernel
theorem dX2_heldFor_22 : decode cX2_heldFor 22 = .ok (.aload_n 0, 1) := by decide +kernel
theorem dX2_heldFor_23 : decode cX2_heldFor 23 = .ok (.getfield 25, 3) := by decide +kernel
theorem dX2_heldFor_26 : decode cX2_heldFor 26 = .ok (.iload 4, 2) := by decide +kernel
theorem dX2_heldFor_28 : decode cX2_heldFor 28 = .ok (.bipush 8, 2) := by decide +kernel
theorem dX2_heldFor_30 : decode cX2_heldFor 30 = .ok (.imul, 1) := by decide +kernel
theorem dX2_heldFor_31 : decode cX2_heldFor 31 = .ok (.iload_n 2, 1) := by decide +kernel
theorem dX2_heldFor_32 : decode cX2_heldFor 32 = .ok (.iadd, 1) := by decide +kernel
theorem dX2_heldFor_33 : decode cX2_heldFor 33 = .ok (.laload, 1) := by decide +kernel
theorem dX2_heldFor_34 : decode cX2_heldFor 34 = .ok (.iload_n 1, 1) := by decide +kernel
theorem dX2_heldFor_35 : decode cX2_heldFor 35 = .ok (.bipush 63, 2) := by decide +kernel
theorem dX2_heldFor_37 : decode cX2_heldFor 37 = .ok (.iand, 1) := by decide +kernel
theorem dX2_heldFor_38 : decode cX2_heldFor 38 = .ok (.lushr, 1) := by decide +kernel
theorem dX2_heldFor_39 : decode cX2_heldFor 39 = .ok (.lconst 1, 1) := by decide +kernel
theorem dX2_heldFor_40 : decode cX2_heldFor 40 = .ok (.land, 1) := by decide +kernel
theorem dX2_heldFor_41 : decode cX2_heldFor 41 = .ok (.lconst 0, 1) := by decide +kernel
theorem dX2_heldFor_42 : decode cX2_heldFor 42 = .ok (.lcmp, 1) := by decide +kernel
theorem dX2_heldFor_43 : decode cX2_heldFor 43 = .ok (.ifCond .eq 10, 3) := by decide +kernel
theorem dX2_heldFor_46 : decode cX2_heldFor 46 = .ok (.iload_n 3, 1) := by decide +kernel
theorem dX2_heldFor_47 : decode cX2_heldFor 47 = .ok (.iconst 1, 1) := by decide +kernel
theorem dX2_heldFor_48 : decode cX2_heldFor 48 = .ok (.iload 4, 2) := by decide +kernel
theorem dX2_heldFor_50 : decode cX2_heldFor 50 = .ok (.ishl, 1) := by decide +kernel
theorem dX2_heldFor_51 : decode cX2_heldFor 51 = .ok (.ior, 1) := by decide +kernel
theorem dX2_heldFor_52 : decode cX2_heldFor 52 = .ok (.istore_n 3, 1) := by decide +kernel
theorem dX2_heldFor_53 : decode cX2_heldFor 53 = .ok (.iinc 4 1, 3) := by decide +kernel
theorem dX2_heldFor_56 : decode cX2_heldFor 56 = .ok (.goto (-43), 3) := by decide +kernel
theorem dX2_heldFor_59 : decode cX2_heldFor 59 = .ok (.iload_n 3, 1) := by decide +kernel
theorem dX2_heldFor_60 : decode cX2_heldFor 60 = .ok (.ireturn, 1) := by decide +kernel
theorem dX2_takes_0 : decode cX2_takes 0 = .ok (.aload_n 0, 1) := by decide +kernel
theorem dX2_takes_1 : decode cX2_takes 1 = .ok (.getfield 49, 3) := by decide +kernel
theorem dX2_takes_4 : decode cX2_takes 4 = .ok (.tableswitch 105 0 5 #[40, 57, 76, 76, 82, 88], 40) := by decide +kernel
theorem dX2_takes_44 : decode cX2_takes 44 = .ok (.aload_n 0, 1) := by decide +kernel
theorem dX2_takes_45 : decode cX2_takes 45 = .ok (.iconst 1, 1) := by decide +kernel
theorem dX2_takes_46 : decode cX2_takes 46 = .ok (.putfield 49, 3) := by decide +kernel
theorem dX2_takes_49 : decode cX2_takes 49 = .ok (.iload_n 1, 1) := by decide +kernel
theorem dX2_takes_50 : decode cX2_takes 50 = .ok (.bipush 72, 2) := by decide +kernel
theorem dX2_takes_52 : decode cX2_takes 52 = .ok (.if_icmp .ne 7, 3) := by decide +kernel
theorem dX2_takes_55 : decode cX2_takes 55 = .ok (.iconst 1, 1) := by decide +kernel
theorem dX2_takes_56 : decode cX2_takes 56 = .ok (.goto 4, 3) := by decide +kernel
theorem dX2_takes_59 : decode cX2_takes 59 = .ok (.iconst 0, 1) := by decide +kernel
theorem dX2_takes_60 : decode cX2_takes 60 = .ok (.ireturn, 1) := by decide +kernel
theorem dX2_takes_61 : decode cX2_takes 61 = .ok (.iload_n 1, 1) := by decide +kernel
theorem dX2_takes_62 : decode cX2_takes 62 = .ok (.bipush 47, 2) := by decide +kernel
theorem dX2_takes_64 : decode cX2_takes 64 = .ok (.if_icmp .ne 14, 3) := by decide +kernel
theorem dX2_takes_67 : decode cX2_takes 67 = .ok (.aload_n 0, 1) := by decide +kernel
theorem dX2_takes_68 : decode cX2_takes 68 = .ok (.invokevirtual 75, 3) := by decide +kernel
theorem dX2_takes_71 : decode cX2_takes 71 = .ok (.ifCond .eq 7, 3) := by decide +kernel
theorem dX2_takes_74 : decode cX2_takes 74 = .ok (.iconst 1, 1) := by decide +kernel
theorem dX2_takes_75 : decode cX2_takes 75 = .ok (.goto 4, 3) := by decide +kernel
theorem dX2_takes_78 : decode cX2_takes 78 = .ok (.iconst 0, 1) := by decide +kernel
theorem dX2_takes_79 : decode cX2_takes 79 = .ok (.ireturn, 1) := by decide +kernel
theorem dX2_takes_80 : decode cX2_takes 80 = .ok (.aload_n 0, 1) := by decide +kernel
theorem dX2_takes_81 : decode cX2_takes 81 = .ok (.iload_n 1, 1) := by decide +kernel
theorem dX2_takes_82 : decode cX2_takes 82 = .ok (.invokevirtual 79, 3) := by decide +kernel
theorem dX2_takes_85 : decode cX2_takes 85 = .ok (.ireturn, 1) := by decide +kernel
theorem dX2_takes_86 : decode cX2_takes 86 = .ok (.aload_n 0, 1) := by decide +kernel
theorem dX2_takes_87 : decode cX2_takes 87 = .ok (.iload_n 1, 1) := by decide +kernel
theorem dX2_takes_88 : decode cX2_takes 88 = .ok (.invokevirtual 82, 3) := by decide +kernel
theorem dX2_takes_91 : decode cX2_takes 91 = .ok (.ireturn, 1) := by decide +kernel
theorem dX2_takes_92 : decode cX2_takes 92 = .ok (.aload_n 0, 1) := by decide +kernel
theorem dX2_takes_93 : decode cX2_takes 93 = .ok (.iconst 4, 1) := by decide +kernel
theorem dX2_takes_94 : decode cX2_takes 94 = .ok (.putfield 49, 3) := by decide +kernel
theorem dX2_takes_97 : decode cX2_takes 97 = .ok (.iload_n 1, 1) := by decide +kernel
theorem dX2_takes_98 : decode cX2_takes 98 = .ok (.bipush 91, 2) := by decide +kernel
theorem dX2_takes_100 : decode cX2_takes 100 = .ok (.if_icmp .ne 7, 3) := by decide +kernel
theorem dX2_takes_103 : decode cX2_takes 103 = .ok (.iconst 1, 1) := by decide +kernel
theorem dX2_takes_104 : decode cX2_takes 104 = .ok (.goto 4, 3) := by decide +kernel
theorem dX2_takes_107 : decode cX2_takes 107 = .ok (.iconst 0, 1) := by decide +kernel
theorem dX2_takes_108 : decode cX2_takes 108 = .ok (.ireturn, 1) := by decide +kernel
theorem dX2_takes_109 : decode cX2_takes 109 = .ok (.aload_n 0, 1) := by decide +kernel
theorem dX2_takes_110 : decode cX2_takes 110 = .ok (.iload_n 1, 1) := by decide +kernel
theorem dX2_takes_111 : decode cX2_takes 111 = .ok (.invokevirtual 85, 3) := by decide +kernel
theorem dX2_takes_114 : decode cX2_takes 114 = .ok (.ireturn, 1) := by decide +kernel
theorem dX2_beginsPlace_0 : decode cX2_beginsPlace 0 = .ok (.aload_n 0, 1) := by decide +kernel
theorem dX2_beginsPlace_1 : decode cX2_beginsPlace 1 = .ok (.getfield 45, 3) := by decide +kernel
theorem dX2_beginsPlace_4 : decode cX2_beginsPlace 4 = .ok (.bipush 10, 2) := by decide +kernel
theorem dX2_beginsPlace_6 : decode cX2_beginsPlace 6 = .ok (.if_icmp .lt 5, 3) := by decide +kernel
theorem dX2_beginsPlace_9 : decode cX2_beginsPlace 9 = .ok (.iconst 0, 1) := by decide +kernel
theorem dX2_beginsPlace_10 : decode cX2_beginsPlace 10 = .ok (.ireturn, 1) := by decide +kernel
theorem dX2_beginsPlace_11 : decode cX2_beginsPlace 11 = .ok (.aload_n 0, 1) := by decide +kernel
theorem dX2_beginsPlace_12 : decode cX2_beginsPlace 12 = .ok (.dup, 1) := by decide +kernel
theorem dX2_beginsPlace_13 : decode cX2_beginsPlace 13 = .ok (.getfield 45, 3) := by decide +kernel
theorem dX2_beginsPlace_16 : decode cX2_beginsPlace 16 = .ok (.iconst 1, 1) := by decide +kernel
theorem dX2_beginsPlace_17 : decode cX2_beginsPlace 17 = .ok (.iadd, 1) := by decide +kernel
theorem dX2_beginsPlace_18 : decode cX2_beginsPlace 18 = .ok (.putfield 45, 3) := by decide +kernel
theorem dX2_beginsPlace_21 : decode cX2_beginsPlace 21 = .ok (.aload_n 0, 1) := by decide +kernel
theorem dX2_beginsPlace_22 : decode cX2_beginsPlace 22 = .ok (.iconst 2, 1) := by decide +kernel
theorem dX2_beginsPlace_23 : decode cX2_beginsPlace 23 = .ok (.putfield 49, 3) := by decide +kernel
theorem dX2_beginsPlace_26 : decode cX2_beginsPlace 26 = .ok (.iconst 1, 1) := by decide +kernel
theorem dX2_beginsPlace_27 : decode cX2_beginsPlace 27 = .ok (.ireturn, 1) := by decide +kernel
theorem dX2_takesCoordinate_0 : decode cX2_takesCoordinate 0 = .ok (.iload_n 1, 1) := by decide +kernel
theorem dX2_takesCoordinate_1 : decode cX2_takesCoordinate 1 = .ok (.bipush 48, 2) := by decide +kernel
theorem dX2_takesCoordinate_3 : decode cX2_takesCoordinate 3 = .ok (.if_icmp .lt 9, 3) := by decide +kernel
theorem dX2_takesCoordinate_6 : decode cX2_takesCoordinate 6 = .ok (.iload_n 1, 1) := by decide +kernel
theorem dX2_takesCoordinate_7 : decode cX2_takesCoordinate 7 = .ok (.bipush 57, 2) := by decide +kernel
theorem dX2_takesCoordinate_9 : decode cX2_takesCoordinate 9 = .ok (.if_icmp .le 5, 3) := by decide +kernel
theorem dX2_takesCoordinate_12 : decode cX2_takesCoordinate 12 = .ok (.iconst 0, 1) := by decide +kernel
theorem dX2_takesCoordinate_13 : decode cX2_takesCoordinate 13 = .ok (.ireturn, 1) := by decide +kernel
theorem dX2_takesCoordinate_14 : decode cX2_takesCoordinate 14 = .ok (.aload_n 0, 1) := by decide +kernel
theorem dX2_takesCoordinate_15 : decode cX2_takesCoordinate 15 = .ok (.getfield 49, 3) := by decide +kernel
theorem dX2_takesCoordinate_18 : decode cX2_takesCoordinate 18 = .ok (.iconst 2, 1) := by decide +kernel
theorem dX2_takesCoordinate_19 : decode cX2_takesCoordinate 19 = .ok (.if_icmp .ne 26, 3) := by decide +kernel
theorem dX2_takesCoordinate_22 : decode cX2_takesCoordinate 22 = .ok (.aload_n 0, 1) := by decide +kernel
theorem dX2_takesCoordinate_23 : decode cX2_takesCoordinate 23 = .ok (.getfield 18, 3) := by decide +kernel
theorem dX2_takesCoordinate_26 : decode cX2_takesCoordinate 26 = .ok (.aload_n 0, 1) := by decide +kernel
theorem dX2_takesCoordinate_27 : decode cX2_takesCoordinate 27 = .ok (.getfield 45, 3) := by decide +kernel
theorem dX2_takesCoordinate_30 : decode cX2_takesCoordinate 30 = .ok (.iconst 1, 1) := by decide +kernel
theorem dX2_takesCoordinate_31 : decode cX2_takesCoordinate 31 = .ok (.isub, 1) := by decide +kernel
theorem dX2_takesCoordinate_32 : decode cX2_takesCoordinate 32 = .ok (.iload_n 1, 1) := by decide +kernel
theorem dX2_takesCoordinate_33 : decode cX2_takesCoordinate 33 = .ok (.bipush 48, 2) := by decide +kernel
theorem dX2_takesCoordinate_35 : decode cX2_takesCoordinate 35 = .ok (.isub, 1) := by decide +kernel
theorem dX2_takesCoordinate_36 : decode cX2_takesCoordinate 36 = .ok (.iastore, 1) := by decide +kernel
theorem dX2_takesCoordinate_37 : decode cX2_takesCoordinate 37 = .ok (.aload_n 0, 1) := by decide +kernel
theorem dX2_takesCoordinate_38 : decode cX2_takesCoordinate 38 = .ok (.iconst 3, 1) := by decide +kernel
theorem dX2_takesCoordinate_39 : decode cX2_takesCoordinate 39 = .ok (.putfield 49, 3) := by decide +kernel
theorem dX2_takesCoordinate_42 : decode cX2_takesCoordinate 42 = .ok (.goto 40, 3) := by decide +kernel
theorem dX2_takesCoordinate_45 : decode cX2_takesCoordinate 45 = .ok (.aload_n 0, 1) := by decide +kernel
theorem dX2_takesCoordinate_46 : decode cX2_takesCoordinate 46 = .ok (.getfield 22, 3) := by decide +kernel
theorem dX2_takesCoordinate_49 : decode cX2_takesCoordinate 49 = .ok (.aload_n 0, 1) := by decide +kernel
theorem dX2_takesCoordinate_50 : decode cX2_takesCoordinate 50 = .ok (.getfield 45, 3) := by decide +kernel
theorem dX2_takesCoordinate_53 : decode cX2_takesCoordinate 53 = .ok (.iconst 1, 1) := by decide +kernel
theorem dX2_takesCoordinate_54 : decode cX2_takesCoordinate 54 = .ok (.isub, 1) := by decide +kernel
theorem dX2_takesCoordinate_55 : decode cX2_takesCoordinate 55 = .ok (.iload_n 1, 1) := by decide +kernel
theorem dX2_takesCoordinate_56 : decode cX2_takesCoordinate 56 = .ok (.bipush 48, 2) := by decide +kernel
theorem dX2_takesCoordinate_58 : decode cX2_takesCoordinate 58 = .ok (.isub, 1) := by decide +kernel
theorem dX2_takesCoordinate_59 : decode cX2_takesCoordinate 59 = .ok (.iastore, 1) := by decide +kernel
theorem dX2_takesCoordinate_60 : decode cX2_takesCoordinate 60 = .ok (.aload_n 0, 1) := by decide +kernel
theorem dX2_takesCoordinate_61 : decode cX2_takesCoordinate 61 = .ok (.getfield 12, 3) := by decide +kernel
theorem dX2_takesCoordinate_64 : decode cX2_takesCoordinate 64 = .ok (.invokevirtual 88, 3) := by decide +kernel
theorem dX2_takesCoordinate_67 : decode cX2_takesCoordinate 67 = .ok (.aload_n 0, 1) := by decide +kernel
theorem dX2_takesCoordinate_68 : decode cX2_takesCoordinate 68 = .ok (.iconst 0, 1) := by decide +kernel
theorem dX2_takesCoordinate_69 : decode cX2_takesCoordinate 69 = .ok (.putfield 66, 3) := by decide +kernel
theorem dX2_takesCoordinate_72 : decode cX2_takesCoordinate 72 = .ok (.aload_n 0, 1) := by decide +kernel
theorem dX2_takesCoordinate_73 : decode cX2_takesCoordinate 73 = .ok (.iconst 0, 1) := by decide +kernel
theorem dX2_takesCoordinate_74 : decode cX2_takesCoordinate 74 = .ok (.invokevirtual 91, 3) := by decide +kernel
theorem dX2_takesCoordinate_77 : decode cX2_takesCoordinate 77 = .ok (.aload_n 0, 1) := by decide +kernel
theorem dX2_takesCoordinate_78 : decode cX2_takesCoordinate 78 = .ok (.iconst 4, 1) := by decide +kernel
theorem dX2_takesCoordinate_79 : decode cX2_takesCoordinate 79 = .ok (.putfield 49, 3) := by decide +kernel
theorem dX2_takesCoordinate_82 : decode cX2_takesCoordinate 82 = .ok (.iconst 1, 1) := by decide +kernel
theorem dX2_takesCoordinate_83 : decode cX2_takesCoordinate 83 = .ok (.ireturn, 1) := by decide +kernel
theorem dX2_beginConditions_0 : decode cX2_beginConditions 0 = .ok (.aload_n 0, 1) := by decide +kernel
theorem dX2_beginConditions_1 : decode cX2_beginConditions 1 = .ok (.getfield 29, 3) := by decide +kernel
theorem dX2_beginConditions_4 : decode cX2_beginConditions 4 = .ok (.aload_n 0, 1) := by decide +kernel
theorem dX2_beginConditions_5 : decode cX2_beginConditions 5 = .ok (.getfield 66, 3) := by decide +kernel
theorem dX2_beginConditions_8 : decode cX2_beginConditions 8 = .ok (.iload_n 1, 1) := by decide +kernel
theorem dX2_beginConditions_9 : decode cX2_beginConditions 9 = .ok (.iastore, 1) := by decide +kernel
theorem dX2_beginConditions_10 : decode cX2_beginConditions 10 = .ok (.aload_n 0, 1) := by decide +kernel
theorem dX2_beginConditions_11 : decode cX2_beginConditions 11 = .ok (.getfield 32, 3) := by decide +kernel
theorem dX2_beginConditions_14 : decode cX2_beginConditions 14 = .ok (.aload_n 0, 1) := by decide +kernel
theorem dX2_beginConditions_15 : decode cX2_beginConditions 15 = .ok (.getfield 66, 3) := by decide +kernel
theorem dX2_beginConditions_18 : decode cX2_beginConditions 18 = .ok (.iconst 0, 1) := by decide +kernel
theorem dX2_beginConditions_19 : decode cX2_beginConditions 19 = .ok (.iastore, 1) := by decide +kernel
theorem dX2_beginConditions_20 : decode cX2_beginConditions 20 = .ok (.aload_n 0, 1) := by decide +kernel
theorem dX2_beginConditions_21 : decode cX2_beginConditions 21 = .ok (.getfield 35, 3) := by decide +kernel
theorem dX2_beginConditions_24 : decode cX2_beginConditions 24 = .ok (.aload_n 0, 1) := by decide +kernel
theorem dX2_beginConditions_25 : decode cX2_beginConditions 25 = .ok (.getfield 66, 3) := by decide +kernel
theorem dX2_beginConditions_28 : decode cX2_beginConditions 28 = .ok (.iconst 0, 1) := by decide +kernel
theorem dX2_beginConditions_29 : decode cX2_beginConditions 29 = .ok (.bastore, 1) := by decide +kernel
theorem dX2_beginConditions_30 : decode cX2_beginConditions 30 = .ok (.aload_n 0, 1) := by decide +kernel
theorem dX2_beginConditions_31 : decode cX2_beginConditions 31 = .ok (.getfield 39, 3) := by decide +kernel
theorem dX2_beginConditions_34 : decode cX2_beginConditions 34 = .ok (.aload_n 0, 1) := by decide +kernel
theorem dX2_beginConditions_35 : decode cX2_beginConditions 35 = .ok (.getfield 66, 3) := by decide +kernel
theorem dX2_beginConditions_38 : decode cX2_beginConditions 38 = .ok (.iconst 0, 1) := by decide +kernel
theorem dX2_beginConditions_39 : decode cX2_beginConditions 39 = .ok (.bastore, 1) := by decide +kernel
theorem dX2_beginConditions_40 : decode cX2_beginConditions 40 = .ok (.aload_n 0, 1) := by decide +kernel
theorem dX2_beginConditions_41 : decode cX2_beginConditions 41 = .ok (.getfield 42, 3) := by decide +kernel
theorem dX2_beginConditions_44 : decode cX2_beginConditions 44 = .ok (.aload_n 0, 1) := by decide +kernel
theorem dX2_beginConditions_45 : decode cX2_beginConditions 45 = .ok (.getfield 66, 3) := by decide +kernel
theorem dX2_beginConditions_48 : decode cX2_beginConditions 48 = .ok (.iconst 0, 1) := by decide +kernel
theorem dX2_beginConditions_49 : decode cX2_beginConditions 49 = .ok (.bastore, 1) := by decide +kernel
theorem dX2_beginConditions_50 : decode cX2_beginConditions 50 = .ok (.return_, 1) := by decide +kernel
theorem dX2_takesPart_0 : decode cX2_takesPart 0 = .ok (.iload_n 1, 1) := by decide +kernel
theorem dX2_takesPart_1 : decode cX2_takesPart 1 = .ok (.bipush 33, 2) := by decide +kernel
theorem dX2_takesPart_3 : decode cX2_takesPart 3 = .ok (.if_icmp .ne 31, 3) := by decide +kernel
theorem dX2_takesPart_6 : decode cX2_takesPart 6 = .ok (.aload_n 0, 1) := by decide +kernel
theorem dX2_takesPart_7 : decode cX2_takesPart 7 = .ok (.getfield 35, 3) := by decide +kernel
theorem dX2_takesPart_10 : decode cX2_takesPart 10 = .ok (.aload_n 0, 1) := by decide +kernel
theorem dX2_takesPart_11 : decode cX2_takesPart 11 = .ok (.getfield 66, 3) := by decide +kernel
theorem dX2_takesPart_14 : decode cX2_takesPart 14 = .ok (.aload_n 0, 1) := by decide +kernel
theorem dX2_takesPart_15 : decode cX2_takesPart 15 = .ok (.getfield 35, 3) := by decide +kernel
theorem dX2_takesPart_18 : decode cX2_takesPart 18 = .ok (.aload_n 0, 1) := by decide +kernel
theorem dX2_takesPart_19 : decode cX2_takesPart 19 = .ok (.getfield 66, 3) := by decide +kernel
theorem dX2_takesPart_22 : decode cX2_takesPart 22 = .ok (.baload, 1) := by decide +kernel
theorem dX2_takesPart_23 : decode cX2_takesPart 23 = .ok (.ifCond .ne 7, 3) := by decide +kernel
theorem dX2_takesPart_26 : decode cX2_takesPart 26 = .ok (.iconst 1, 1) := by decide +kernel
theorem dX2_takesPart_27 : decode cX2_takesPart 27 = .ok (.goto 4, 3) := by decide +kernel
theorem dX2_takesPart_30 : decode cX2_takesPart 30 = .ok (.iconst 0, 1) := by decide +kernel
theorem dX2_takesPart_31 : decode cX2_takesPart 31 = .ok (.bastore, 1) := by decide +kernel
theorem dX2_takesPart_32 : decode cX2_takesPart 32 = .ok (.iconst 1, 1) := by decide +kernel
theorem dX2_takesPart_33 : decode cX2_takesPart 33 = .ok (.ireturn, 1) := by decide +kernel
theorem dX2_takesPart_34 : decode cX2_takesPart 34 = .ok (.iload_n 1, 1) := by decide +kernel
theorem dX2_takesPart_35 : decode cX2_takesPart 35 = .ok (.bipush 40, 2) := by decide +kernel
theorem dX2_takesPart_37 : decode cX2_takesPart 37 = .ok (.if_icmp .ne 10, 3) := by decide +kernel
theorem dX2_takesPart_40 : decode cX2_takesPart 40 = .ok (.aload_n 0, 1) := by decide +kernel
theorem dX2_takesPart_41 : decode cX2_takesPart 41 = .ok (.iconst 0, 1) := by decide +kernel
theorem dX2_takesPart_42 : decode cX2_takesPart 42 = .ok (.iconst 4, 1) := by decide +kernel
theorem dX2_takesPart_43 : decode cX2_takesPart 43 = .ok (.invokevirtual 95, 3) := by decide +kernel
theorem dX2_takesPart_46 : decode cX2_takesPart 46 = .ok (.ireturn, 1) := by decide +kernel
theorem dX2_takesPart_47 : decode cX2_takesPart 47 = .ok (.iload_n 1, 1) := by decide +kernel
theorem dX2_takesPart_48 : decode cX2_takesPart 48 = .ok (.bipush 49, 2) := by decide +kernel
theorem dX2_takesPart_50 : decode cX2_takesPart 50 = .ok (.if_icmp .lt 19, 3) := by decide +kernel
theorem dX2_takesPart_53 : decode cX2_takesPart 53 = .ok (.iload_n 1, 1) := by decide +kernel
theorem dX2_takesPart_54 : decode cX2_takesPart 54 = .ok (.bipush 52, 2) := by decide +kernel
theorem dX2_takesPart_56 : decode cX2_takesPart 56 = .ok (.if_icmp .gt 13, 3) := by decide +kernel
theorem dX2_takesPart_59 : decode cX2_takesPart 59 = .ok (.aload_n 0, 1) := by decide +kernel
theorem dX2_takesPart_60 : decode cX2_takesPart 60 = .ok (.iload_n 1, 1) := by decide +kernel
theorem dX2_takesPart_61 : decode cX2_takesPart 61 = .ok (.bipush 48, 2) := by decide +kernel
theorem dX2_takesPart_63 : decode cX2_takesPart 63 = .ok (.isub, 1) := by decide +kernel
theorem dX2_takesPart_64 : decode cX2_takesPart 64 = .ok (.iconst 5, 1) := by decide +kernel
theorem dX2_takesPart_65 : decode cX2_takesPart 65 = .ok (.invokevirtual 95, 3) := by decide +kernel
theorem dX2_takesPart_68 : decode cX2_takesPart 68 = .ok (.ireturn, 1) := by decide +kernel
theorem dX2_takesPart_69 : decode cX2_takesPart 69 = .ok (.iload_n 1, 1) := by decide +kernel
theorem dX2_takesPart_70 : decode cX2_takesPart 70 = .ok (.bipush 42, 2) := by decide +kernel
theorem dX2_takesPart_72 : decode cX2_takesPart 72 = .ok (.if_icmp .ne 13, 3) := by decide +kernel
theorem dX2_takesPart_75 : decode cX2_takesPart 75 = .ok (.aload_n 0, 1) := by decide +kernel
theorem dX2_takesPart_76 : decode cX2_takesPart 76 = .ok (.getfield 12, 3) := by decide +kernel
theorem dX2_takesPart_79 : decode cX2_takesPart 79 = .ok (.invokevirtual 99, 3) := by decide +kernel
theorem dX2_takesPart_82 : decode cX2_takesPart 82 = .ok (.goto 38, 3) := by decide +kernel
theorem dX2_takesPart_85 : decode cX2_takesPart 85 = .ok (.iload_n 1, 1) := by decide +kernel
theorem dX2_takesPart_86 : decode cX2_takesPart 86 = .ok (.bipush 97, 2) := by decide +kernel
theorem dX2_takesPart_88 : decode cX2_takesPart 88 = .ok (.if_icmp .lt 30, 3) := by decide +kernel
theorem dX2_takesPart_91 : decode cX2_takesPart 91 = .ok (.iload_n 1, 1) := by decide +kernel
theorem dX2_takesPart_92 : decode cX2_takesPart 92 = .ok (.bipush 97, 2) := by decide +kernel
theorem dX2_takesPart_94 : decode cX2_takesPart 94 = .ok (.aload_n 0, 1) := by decide +kernel
theorem dX2_takesPart_95 : decode cX2_takesPart 95 = .ok (.getfield 45, 3) := by decide +kernel
theorem dX2_takesPart_98 : decode cX2_takesPart 98 = .ok (.iadd, 1) := by decide +kernel
theorem dX2_takesPart_99 : decode cX2_takesPart 99 = .ok (.iconst 1, 1) := by decide +kernel
theorem dX2_takesPart_100 : decode cX2_takesPart 100 = .ok (.isub, 1) := by decide +kernel
theorem dX2_takesPart_101 : decode cX2_takesPart 101 = .ok (.if_icmp .ge 17, 3) := by decide +kernel
theorem dX2_takesPart_104 : decode cX2_takesPart 104 = .ok (.aload_n 0, 1) := by decide +kernel
theorem dX2_takesPart_105 : decode cX2_takesPart 105 = .ok (.getfield 12, 3) := by decide +kernel
theorem dX2_takesPart_108 : decode cX2_takesPart 108 = .ok (.iload_n 1, 1) := by decide +kernel
theorem dX2_takesPart_109 : decode cX2_takesPart 109 = .ok (.bipush 97, 2) := by decide +kernel
theorem dX2_takesPart_111 : decode cX2_takesPart 111 = .ok (.isub, 1) := by decide +kernel
theorem dX2_takesPart_112 : decode cX2_takesPart 112 = .ok (.invokevirtual 102, 3) := by decide +kernel
theorem dX2_takesPart_115 : decode cX2_takesPart 115 = .ok (.goto 5, 3) := by decide +kernel
theorem dX2_takesPart_118 : decode cX2_takesPart 118 = .ok (.iconst 0, 1) := by decide +kernel
theorem dX2_takesPart_119 : decode cX2_takesPart 119 = .ok (.ireturn, 1) := by decide +kernel
theorem dX2_takesPart_120 : decode cX2_takesPart 120 = .ok (.aload_n 0, 1) := by decide +kernel
theorem dX2_takesPart_121 : decode cX2_takesPart 121 = .ok (.invokevirtual 105, 3) := by decide +kernel
theorem dX2_takesPart_124 : decode cX2_takesPart 124 = .ok (.iconst 1, 1) := by decide +kernel
theorem dX2_takesPart_125 : decode cX2_takesPart 125 = .ok (.ireturn, 1) := by decide +kernel
theorem dX2_nests_0 : decode cX2_nests 0 = .ok (.aload_n 0, 1) := by decide +kernel
theorem dX2_nests_1 : decode cX2_nests 1 = .ok (.getfield 66, 3) := by decide +kernel
theorem dX2_nests_4 : decode cX2_nests 4 = .ok (.bipush 120, 2) := by decide +kernel
theorem dX2_nests_6 : decode cX2_nests 6 = .ok (.if_icmp .lt 5, 3) := by decide +kernel
theorem dX2_nests_9 : decode cX2_nests 9 = .ok (.iconst 0, 1) := by decide +kernel
theorem dX2_nests_10 : decode cX2_nests 10 = .ok (.ireturn, 1) := by decide +kernel
theorem dX2_nests_11 : decode cX2_nests 11 = .ok (.aload_n 0, 1) := by decide +kernel
theorem dX2_nests_12 : decode cX2_nests 12 = .ok (.dup, 1) := by decide +kernel
theorem dX2_nests_13 : decode cX2_nests 13 = .ok (.getfield 66, 3) := by decide +kernel
theorem dX2_nests_16 : decode cX2_nests 16 = .ok (.iconst 1, 1) := by decide +kernel
theorem dX2_nests_17 : decode cX2_nests 17 = .ok (.iadd, 1) := by decide +kernel
theorem dX2_nests_18 : decode cX2_nests 18 = .ok (.putfield 66, 3) := by decide +kernel
theorem dX2_nests_21 : decode cX2_nests 21 = .ok (.aload_n 0, 1) := by decide +kernel
theorem dX2_nests_22 : decode cX2_nests 22 = .ok (.iload_n 1, 1) := by decide +kernel
theorem dX2_nests_23 : decode cX2_nests 23 = .ok (.invokevirtual 91, 3) := by decide +kernel
theorem dX2_nests_26 : decode cX2_nests 26 = .ok (.aload_n 0, 1) := by decide +kernel
theorem dX2_nests_27 : decode cX2_nests 27 = .ok (.iload_n 2, 1) := by decide +kernel
theorem dX2_nests_28 : decode cX2_nests 28 = .ok (.putfield 49, 3) := by decide +kernel
theorem dX2_nests_31 : decode cX2_nests 31 = .ok (.iconst 1, 1) := by decide +kernel
theorem dX2_nests_32 : decode cX2_nests 32 = .ok (.ireturn, 1) := by decide +kernel
theorem dX2_takesJoin_0 : decode cX2_takesJoin 0 = .ok (.aload_n 0, 1) := by decide +kernel
theorem dX2_takesJoin_1 : decode cX2_takesJoin 1 = .ok (.getfield 66, 3) := by decide +kernel
theorem dX2_takesJoin_4 : decode cX2_takesJoin 4 = .ok (.ifCond .le 19, 3) := by decide +kernel
theorem dX2_takesJoin_7 : decode cX2_takesJoin 7 = .ok (.aload_n 0, 1) := by decide +kernel
theorem dX2_takesJoin_8 : decode cX2_takesJoin 8 = .ok (.getfield 29, 3) := by decide +kernel
theorem dX2_takesJoin_11 : decode cX2_takesJoin 11 = .ok (.aload_n 0, 1) := by decide +kernel
theorem dX2_takesJoin_12 : decode cX2_takesJoin 12 = .ok (.getfield 66, 3) := by decide +kernel
theorem dX2_takesJoin_15 : decode cX2_takesJoin 15 = .ok (.iaload, 1) := by decide +kernel
theorem dX2_takesJoin_16 : decode cX2_takesJoin 16 = .ok (.ifCond .le 7, 3) := by decide +kernel
theorem dX2_takesJoin_19 : decode cX2_takesJoin 19 = .ok (.iconst 1, 1) := by decide +kernel
theorem dX2_takesJoin_20 : decode cX2_takesJoin 20 = .ok (.goto 4, 3) := by decide +kernel
theorem dX2_takesJoin_23 : decode cX2_takesJoin 23 = .ok (.iconst 0, 1) := by decide +kernel
theorem dX2_takesJoin_24 : decode cX2_takesJoin 24 = .ok (.istore_n 2, 1) := by decide +kernel
theorem dX2_takesJoin_25 : decode cX2_takesJoin 25 = .ok (.aload_n 0, 1) := by decide +kernel
theorem dX2_takesJoin_26 : decode cX2_takesJoin 26 = .ok (.getfield 66, 3) := by decide +kernel
theorem dX2_takesJoin_29 : decode cX2_takesJoin 29 = .ok (.ifCond .le 19, 3) := by decide +kernel
theorem dX2_takesJoin_32 : decode cX2_takesJoin 32 = .ok (.aload_n 0, 1) := by decide +kernel
theorem dX2_takesJoin_33 : decode cX2_takesJoin 33 = .ok (.getfield 29, 3) := by decide +kernel
theorem dX2_takesJoin_36 : decode cX2_takesJoin 36 = .ok (.aload_n 0, 1) := by decide +kernel
theorem dX2_takesJoin_37 : decode cX2_takesJoin 37 = .ok (.getfield 66, 3) := by decide +kernel
theorem dX2_takesJoin_40 : decode cX2_takesJoin 40 = .ok (.iaload, 1) := by decide +kernel
theorem dX2_takesJoin_41 : decode cX2_takesJoin 41 = .ok (.ifCond .ne 7, 3) := by decide +kernel
theorem dX2_takesJoin_44 : decode cX2_takesJoin 44 = .ok (.iconst 1, 1) := by decide +kernel
theorem dX2_takesJoin_45 : decode cX2_takesJoin 45 = .ok (.goto 4, 3) := by decide +kernel
theorem dX2_takesJoin_48 : decode cX2_takesJoin 48 = .ok (.iconst 0, 1) := by decide +kernel
theorem dX2_takesJoin_49 : decode cX2_takesJoin 49 = .ok (.istore_n 3, 1) := by decide +kernel
theorem dX2_takesJoin_50 : decode cX2_takesJoin 50 = .ok (.iload_n 1, 1) := by decide +kernel
theorem dX2_takesJoin_51 : decode cX2_takesJoin 51 = .ok (.bipush 46, 2) := by decide +kernel
theorem dX2_takesJoin_53 : decode cX2_takesJoin 53 = .ok (.if_icmp .ne 10, 3) := by decide +kernel
theorem dX2_takesJoin_56 : decode cX2_takesJoin 56 = .ok (.aload_n 0, 1) := by decide +kernel
theorem dX2_takesJoin_57 : decode cX2_takesJoin 57 = .ok (.iconst 4, 1) := by decide +kernel
theorem dX2_takesJoin_58 : decode cX2_takesJoin 58 = .ok (.putfield 49, 3) := by decide +kernel
theorem dX2_takesJoin_61 : decode cX2_takesJoin 61 = .ok (.iconst 1, 1) := by decide +kernel
theorem dX2_takesJoin_62 : decode cX2_takesJoin 62 = .ok (.ireturn, 1) := by decide +kernel
theorem dX2_takesJoin_63 : decode cX2_takesJoin 63 = .ok (.iload_n 1, 1) := by decide +kernel
theorem dX2_takesJoin_64 : decode cX2_takesJoin 64 = .ok (.bipush 43, 2) := by decide +kernel
theorem dX2_takesJoin_66 : decode cX2_takesJoin 66 = .ok (.if_icmp .ne 14, 3) := by decide +kernel
theorem dX2_takesJoin_69 : decode cX2_takesJoin 69 = .ok (.aload_n 0, 1) := by decide +kernel
theorem dX2_takesJoin_70 : decode cX2_takesJoin 70 = .ok (.invokevirtual 108, 3) := by decide +kernel
theorem dX2_takesJoin_73 : decode cX2_takesJoin 73 = .ok (.aload_n 0, 1) := by decide +kernel
theorem dX2_takesJoin_74 : decode cX2_takesJoin 74 = .ok (.iconst 4, 1) := by decide +kernel
theorem dX2_takesJoin_75 : decode cX2_takesJoin 75 = .ok (.putfield 49, 3) := by decide +kernel
theorem dX2_takesJoin_78 : decode cX2_takesJoin 78 = .ok (.iconst 1, 1) := by decide +kernel
theorem dX2_takesJoin_79 : decode cX2_takesJoin 79 = .ok (.ireturn, 1) := by decide +kernel
theorem dX2_takesJoin_80 : decode cX2_takesJoin 80 = .ok (.iload_n 1, 1) := by decide +kernel
theorem dX2_takesJoin_81 : decode cX2_takesJoin 81 = .ok (.bipush 44, 2) := by decide +kernel
theorem dX2_takesJoin_83 : decode cX2_takesJoin 83 = .ok (.if_icmp .ne 18, 3) := by decide +kernel
theorem dX2_takesJoin_86 : decode cX2_takesJoin 86 = .ok (.iload_n 2, 1) := by decide +kernel
theorem dX2_takesJoin_87 : decode cX2_takesJoin 87 = .ok (.ifCond .eq 14, 3) := by decide +kernel
theorem dX2_takesJoin_90 : decode cX2_takesJoin 90 = .ok (.aload_n 0, 1) := by decide +kernel
theorem dX2_takesJoin_91 : decode cX2_takesJoin 91 = .ok (.invokevirtual 69, 3) := by decide +kernel
theorem dX2_takesJoin_94 : decode cX2_takesJoin 94 = .ok (.aload_n 0, 1) := by decide +kernel
theorem dX2_takesJoin_95 : decode cX2_takesJoin 95 = .ok (.iconst 4, 1) := by decide +kernel
theorem dX2_takesJoin_96 : decode cX2_takesJoin 96 = .ok (.putfield 49, 3) := by decide +kernel
theorem dX2_takesJoin_99 : decode cX2_takesJoin 99 = .ok (.iconst 1, 1) := by decide +kernel
theorem dX2_takesJoin_100 : decode cX2_takesJoin 100 = .ok (.ireturn, 1) := by decide +kernel
theorem dX2_takesJoin_101 : decode cX2_takesJoin 101 = .ok (.iload_n 1, 1) := by decide +kernel
theorem dX2_takesJoin_102 : decode cX2_takesJoin 102 = .ok (.bipush 93, 2) := by decide +kernel
theorem dX2_takesJoin_104 : decode cX2_takesJoin 104 = .ok (.if_icmp .ne 52, 3) := by decide +kernel
theorem dX2_takesJoin_107 : decode cX2_takesJoin 107 = .ok (.iload_n 2, 1) := by decide +kernel
theorem dX2_takesJoin_108 : decode cX2_takesJoin 108 = .ok (.ifCond .eq 48, 3) := by decide +kernel
theorem dX2_takesJoin_111 : decode cX2_takesJoin 111 = .ok (.aload_n 0, 1) := by decide +kernel
theorem dX2_takesJoin_112 : decode cX2_takesJoin 112 = .ok (.invokevirtual 69, 3) := by decide +kernel
theorem dX2_takesJoin_115 : decode cX2_takesJoin 115 = .ok (.aload_n 0, 1) := by decide +kernel
theorem dX2_takesJoin_116 : decode cX2_takesJoin 116 = .ok (.getfield 12, 3) := by decide +kernel
theorem dX2_takesJoin_119 : decode cX2_takesJoin 119 = .ok (.aload_n 0, 1) := by decide +kernel
theorem dX2_takesJoin_120 : decode cX2_takesJoin 120 = .ok (.getfield 29, 3) := by decide +kernel
theorem dX2_takesJoin_123 : decode cX2_takesJoin 123 = .ok (.aload_n 0, 1) := by decide +kernel
theorem dX2_takesJoin_124 : decode cX2_takesJoin 124 = .ok (.getfield 66, 3) := by decide +kernel
theorem dX2_takesJoin_127 : decode cX2_takesJoin 127 = .ok (.iaload, 1) := by decide +kernel
theorem dX2_takesJoin_128 : decode cX2_takesJoin 128 = .ok (.aload_n 0, 1) := by decide +kernel
theorem dX2_takesJoin_129 : decode cX2_takesJoin 129 = .ok (.getfield 32, 3) := by decide +kernel
theorem dX2_takesJoin_132 : decode cX2_takesJoin 132 = .ok (.aload_n 0, 1) := by decide +kernel
theorem dX2_takesJoin_133 : decode cX2_takesJoin 133 = .ok (.getfield 66, 3) := by decide +kernel
theorem dX2_takesJoin_136 : decode cX2_takesJoin 136 = .ok (.iaload, 1) := by decide +kernel
theorem dX2_takesJoin_137 : decode cX2_takesJoin 137 = .ok (.invokevirtual 111, 3) := by decide +kernel
theorem dX2_takesJoin_140 : decode cX2_takesJoin 140 = .ok (.aload_n 0, 1) := by decide +kernel
theorem dX2_takesJoin_141 : decode cX2_takesJoin 141 = .ok (.dup, 1) := by decide +kernel
theorem dX2_takesJoin_142 : decode cX2_takesJoin 142 = .ok (.getfield 66, 3) := by decide +kernel
theorem dX2_takesJoin_145 : decode cX2_takesJoin 145 = .ok (.iconst 1, 1) := by decide +kernel
theorem dX2_takesJoin_146 : decode cX2_takesJoin 146 = .ok (.isub, 1) := by decide +kernel
theorem dX2_takesJoin_147 : decode cX2_takesJoin 147 = .ok (.putfield 66, 3) := by decide +kernel
theorem dX2_takesJoin_150 : decode cX2_takesJoin 150 = .ok (.aload_n 0, 1) := by decide +kernel
theorem dX2_takesJoin_151 : decode cX2_takesJoin 151 = .ok (.invokevirtual 105, 3) := by decide +kernel
theorem dX2_takesJoin_154 : decode cX2_takesJoin 154 = .ok (.iconst 1, 1) := by decide +kernel
theorem dX2_takesJoin_155 : decode cX2_takesJoin 155 = .ok (.ireturn, 1) := by decide +kernel
theorem dX2_takesJoin_156 : decode cX2_takesJoin 156 = .ok (.iload_n 1, 1) := by decide +kernel
theorem dX2_takesJoin_157 : decode cX2_takesJoin 157 = .ok (.bipush 41, 2) := by decide +kernel
theorem dX2_takesJoin_159 : decode cX2_takesJoin 159 = .ok (.if_icmp .ne 27, 3) := by decide +kernel
theorem dX2_takesJoin_162 : decode cX2_takesJoin 162 = .ok (.iload_n 3, 1) := by decide +kernel
theorem dX2_takesJoin_163 : decode cX2_takesJoin 163 = .ok (.ifCond .eq 23, 3) := by decide +kernel
theorem dX2_takesJoin_166 : decode cX2_takesJoin 166 = .ok (.aload_n 0, 1) := by decide +kernel
theorem dX2_takesJoin_167 : decode cX2_takesJoin 167 = .ok (.invokevirtual 69, 3) := by decide +kernel
theorem dX2_takesJoin_170 : decode cX2_takesJoin 170 = .ok (.aload_n 0, 1) := by decide +kernel
theorem dX2_takesJoin_171 : decode cX2_takesJoin 171 = .ok (.dup, 1) := by decide +kernel
theorem dX2_takesJoin_172 : decode cX2_takesJoin 172 = .ok (.getfield 66, 3) := by decide +kernel
theorem dX2_takesJoin_175 : decode cX2_takesJoin 175 = .ok (.iconst 1, 1) := by decide +kernel
theorem dX2_takesJoin_176 : decode cX2_takesJoin 176 = .ok (.isub, 1) := by decide +kernel
theorem dX2_takesJoin_177 : decode cX2_takesJoin 177 = .ok (.putfield 66, 3) := by decide +kernel
theorem dX2_takesJoin_180 : decode cX2_takesJoin 180 = .ok (.aload_n 0, 1) := by decide +kernel
theorem dX2_takesJoin_181 : decode cX2_takesJoin 181 = .ok (.invokevirtual 105, 3) := by decide +kernel
theorem dX2_takesJoin_184 : decode cX2_takesJoin 184 = .ok (.iconst 1, 1) := by decide +kernel
theorem dX2_takesJoin_185 : decode cX2_takesJoin 185 = .ok (.ireturn, 1) := by decide +kernel
theorem dX2_takesJoin_186 : decode cX2_takesJoin 186 = .ok (.iload_n 1, 1) := by decide +kernel
theorem dX2_takesJoin_187 : decode cX2_takesJoin 187 = .ok (.bipush 47, 2) := by decide +kernel
theorem dX2_takesJoin_189 : decode cX2_takesJoin 189 = .ok (.if_icmp .ne 23, 3) := by decide +kernel
theorem dX2_takesJoin_192 : decode cX2_takesJoin 192 = .ok (.aload_n 0, 1) := by decide +kernel
theorem dX2_takesJoin_193 : decode cX2_takesJoin 193 = .ok (.getfield 66, 3) := by decide +kernel
theorem dX2_takesJoin_196 : decode cX2_takesJoin 196 = .ok (.ifCond .ne 16, 3) := by decide +kernel
theorem dX2_takesJoin_199 : decode cX2_takesJoin 199 = .ok (.aload_n 0, 1) := by decide +kernel
theorem dX2_takesJoin_200 : decode cX2_takesJoin 200 = .ok (.invokevirtual 69, 3) := by decide +kernel
theorem dX2_takesJoin_203 : decode cX2_takesJoin 203 = .ok (.aload_n 0, 1) := by decide +kernel
theorem dX2_takesJoin_204 : decode cX2_takesJoin 204 = .ok (.invokevirtual 72, 3) := by decide +kernel
theorem dX2_takesJoin_207 : decode cX2_takesJoin 207 = .ok (.aload_n 0, 1) := by decide +kernel
theorem dX2_takesJoin_208 : decode cX2_takesJoin 208 = .ok (.invokevirtual 75, 3) := by decide +kernel
theorem dX2_takesJoin_211 : decode cX2_takesJoin 211 = .ok (.ireturn, 1) := by decide +kernel
theorem dX2_takesJoin_212 : decode cX2_takesJoin 212 = .ok (.iconst 0, 1) := by decide +kernel
theorem dX2_takesJoin_213 : decode cX2_takesJoin 213 = .ok (.ireturn, 1) := by decide +kernel
theorem dX2_endPart_0 : decode cX2_endPart 0 = .ok (.aload_n 0, 1) := by decide +kernel
theorem dX2_endPart_1 : decode cX2_endPart 1 = .ok (.getfield 35, 3) := by decide +kernel
theorem dX2_endPart_4 : decode cX2_endPart 4 = .ok (.aload_n 0, 1) := by decide +kernel
theorem dX2_endPart_5 : decode cX2_endPart 5 = .ok (.getfield 66, 3) := by decide +kernel
theorem dX2_endPart_8 : decode cX2_endPart 8 = .ok (.baload, 1) := by decide +kernel
theorem dX2_endPart_9 : decode cX2_endPart 9 = .ok (.ifCond .eq 20, 3) := by decide +kernel
theorem dX2_endPart_12 : decode cX2_endPart 12 = .ok (.aload_n 0, 1) := by decide +kernel
theorem dX2_endPart_13 : decode cX2_endPart 13 = .ok (.getfield 12, 3) := by decide +kernel
theorem dX2_endPart_16 : decode cX2_endPart 16 = .ok (.invokevirtual 115, 3) := by decide +kernel
theorem dX2_endPart_19 : decode cX2_endPart 19 = .ok (.aload_n 0, 1) := by decide +kernel
theorem dX2_endPart_20 : decode cX2_endPart 20 = .ok (.getfield 35, 3) := by decide +kernel
theorem dX2_endPart_23 : decode cX2_endPart 23 = .ok (.aload_n 0, 1) := by decide +kernel
theorem dX2_endPart_24 : decode cX2_endPart 24 = .ok (.getfield 66, 3) := by decide +kernel
theorem dX2_endPart_27 : decode cX2_endPart 27 = .ok (.iconst 0, 1) := by decide +kernel
theorem dX2_endPart_28 : decode cX2_endPart 28 = .ok (.bastore, 1) := by decide +kernel
theorem dX2_endPart_29 : decode cX2_endPart 29 = .ok (.aload_n 0, 1) := by decide +kernel
theorem dX2_endPart_30 : decode cX2_endPart 30 = .ok (.getfield 39, 3) := by decide +kernel
theorem dX2_endPart_33 : decode cX2_endPart 33 = .ok (.aload_n 0, 1) := by decide +kernel
theorem dX2_endPart_34 : decode cX2_endPart 34 = .ok (.getfield 66, 3) := by decide +kernel
theorem dX2_endPart_37 : decode cX2_endPart 37 = .ok (.baload, 1) := by decide +kernel
theorem dX2_endPart_38 : decode cX2_endPart 38 = .ok (.ifCond .eq 10, 3) := by decide +kernel
theorem dX2_endPart_41 : decode cX2_endPart 41 = .ok (.aload_n 0, 1) := by decide +kernel
theorem dX2_endPart_42 : decode cX2_endPart 42 = .ok (.getfield 12, 3) := by decide +kernel
theorem dX2_endPart_45 : decode cX2_endPart 45 = .ok (.invokevirtual 118, 3) := by decide +kernel
theorem dX2_endPart_48 : decode cX2_endPart 48 = .ok (.aload_n 0, 1) := by decide +kernel
theorem dX2_endPart_49 : decode cX2_endPart 49 = .ok (.getfield 39, 3) := by decide +kernel
theorem dX2_endPart_52 : decode cX2_endPart 52 = .ok (.aload_n 0, 1) := by decide +kernel
theorem dX2_endPart_53 : decode cX2_endPart 53 = .ok (.getfield 66, 3) := by decide +kernel
theorem dX2_endPart_56 : decode cX2_endPart 56 = .ok (.iconst 1, 1) := by decide +kernel
theorem dX2_endPart_57 : decode cX2_endPart 57 = .ok (.bastore, 1) := by decide +kernel
theorem dX2_endPart_58 : decode cX2_endPart 58 = .ok (.aload_n 0, 1) := by decide +kernel
theorem dX2_endPart_59 : decode cX2_endPart 59 = .ok (.bipush 6, 2) := by decide +kernel
theorem dX2_endPart_61 : decode cX2_endPart 61 = .ok (.putfield 49, 3) := by decide +kernel
theorem dX2_endPart_64 : decode cX2_endPart 64 = .ok (.return_, 1) := by decide +kernel
theorem dX2_endGroup_0 : decode cX2_endGroup 0 = .ok (.aload_n 0, 1) := by decide +kernel
theorem dX2_endGroup_1 : decode cX2_endGroup 1 = .ok (.getfield 42, 3) := by decide +kernel
theorem dX2_endGroup_4 : decode cX2_endGroup 4 = .ok (.aload_n 0, 1) := by decide +kernel
theorem dX2_endGroup_5 : decode cX2_endGroup 5 = .ok (.getfield 66, 3) := by decide +kernel
theorem dX2_endGroup_8 : decode cX2_endGroup 8 = .ok (.baload, 1) := by decide +kernel
theorem dX2_endGroup_9 : decode cX2_endGroup 9 = .ok (.ifCond .eq 10, 3) := by decide +kernel
theorem dX2_endGroup_12 : decode cX2_endGroup 12 = .ok (.aload_n 0, 1) := by decide +kernel
theorem dX2_endGroup_13 : decode cX2_endGroup 13 = .ok (.getfield 12, 3) := by decide +kernel
theorem dX2_endGroup_16 : decode cX2_endGroup 16 = .ok (.invokevirtual 121, 3) := by decide +kernel
theorem dX2_endGroup_19 : decode cX2_endGroup 19 = .ok (.aload_n 0, 1) := by decide +kernel
theorem dX2_endGroup_20 : decode cX2_endGroup 20 = .ok (.getfield 42, 3) := by decide +kernel
theorem dX2_endGroup_23 : decode cX2_endGroup 23 = .ok (.aload_n 0, 1) := by decide +kernel
theorem dX2_endGroup_24 : decode cX2_endGroup 24 = .ok (.getfield 66, 3) := by decide +kernel
theorem dX2_endGroup_27 : decode cX2_endGroup 27 = .ok (.iconst 1, 1) := by decide +kernel
theorem dX2_endGroup_28 : decode cX2_endGroup 28 = .ok (.bastore, 1) := by decide +kernel
theorem dX2_endGroup_29 : decode cX2_endGroup 29 = .ok (.aload_n 0, 1) := by decide +kernel
theorem dX2_endGroup_30 : decode cX2_endGroup 30 = .ok (.getfield 39, 3) := by decide +kernel
theorem dX2_endGroup_33 : decode cX2_endGroup 33 = .ok (.aload_n 0, 1) := by decide +kernel
theorem dX2_endGroup_34 : decode cX2_endGroup 34 = .ok (.getfield 66, 3) := by decide +kernel
theorem dX2_endGroup_37 : decode cX2_endGroup 37 = .ok (.iconst 0, 1) := by decide +kernel
theorem dX2_endGroup_38 : decode cX2_endGroup 38 = .ok (.bastore, 1) := by decide +kernel
theorem dX2_endGroup_39 : decode cX2_endGroup 39 = .ok (.return_, 1) := by decide +kernel
theorem dX2_endCondition_0 : decode cX2_endCondition 0 = .ok (.aload_n 0, 1) := by decide +kernel
theorem dX2_endCondition_1 : decode cX2_endCondition 1 = .ok (.invokevirtual 108, 3) := by decide +kernel
theorem dX2_endCondition_4 : decode cX2_endCondition 4 = .ok (.aload_n 0, 1) := by decide +kernel
theorem dX2_endCondition_5 : decode cX2_endCondition 5 = .ok (.getfield 42, 3) := by decide +kernel
theorem dX2_endCondition_8 : decode cX2_endCondition 8 = .ok (.aload_n 0, 1) := by decide +kernel
theorem dX2_endCondition_9 : decode cX2_endCondition 9 = .ok (.getfield 66, 3) := by decide +kernel
theorem dX2_endCondition_12 : decode cX2_endCondition 12 = .ok (.iconst 0, 1) := by decide +kernel
theorem dX2_endCondition_13 : decode cX2_endCondition 13 = .ok (.bastore, 1) := by decide +kernel
theorem dX2_endCondition_14 : decode cX2_endCondition 14 = .ok (.aload_n 0, 1) := by decide +kernel
theorem dX2_endCondition_15 : decode cX2_endCondition 15 = .ok (.getfield 32, 3) := by decide +kernel
theorem dX2_endCondition_18 : decode cX2_endCondition 18 = .ok (.aload_n 0, 1) := by decide +kernel
theorem dX2_endCondition_19 : decode cX2_endCondition 19 = .ok (.getfield 66, 3) := by decide +kernel
theorem dX2_endCondition_22 : decode cX2_endCondition 22 = .ok (.dup2, 1) := by decide +kernel
theorem dX2_endCondition_23 : decode cX2_endCondition 23 = .ok (.iaload, 1) := by decide +kernel
theorem dX2_endCondition_24 : decode cX2_endCondition 24 = .ok (.iconst 1, 1) := by decide +kernel
theorem dX2_endCondition_25 : decode cX2_endCondition 25 = .ok (.iadd, 1) := by decide +kernel
theorem dX2_endCondition_26 : decode cX2_endCondition 26 = .ok (.iastore, 1) := by decide +kernel
theorem dX2_endCondition_27 : decode cX2_endCondition 27 = .ok (.return_, 1) := by decide +kernel
theorem dX2_keepCondition_0 : decode cX2_keepCondition 0 = .ok (.iconst 0, 1) := by decide +kernel
theorem dX2_keepCondition_1 : decode cX2_keepCondition 1 = .ok (.istore_n 1, 1) := by decide +kernel
theorem dX2_keepCondition_2 : decode cX2_keepCondition 2 = .ok (.iload_n 1, 1) := by decide +kernel
theorem dX2_keepCondition_3 : decode cX2_keepCondition 3 = .ok (.bipush 8, 2) := by decide +kernel
theorem dX2_keepCondition_5 : decode cX2_keepCondition 5 = .ok (.if_icmp .ge 33, 3) := by decide +kernel
theorem dX2_keepCondition_8 : decode cX2_keepCondition 8 = .ok (.aload_n 0, 1) := by decide +kernel
theorem dX2_keepCondition_9 : decode cX2_keepCondition 9 = .ok (.getfield 25, 3) := by decide +kernel
theorem dX2_keepCondition_12 : decode cX2_keepCondition 12 = .ok (.aload_n 0, 1) := by decide +kernel
theorem dX2_keepCondition_13 : decode cX2_keepCondition 13 = .ok (.getfield 45, 3) := by decide +kernel
theorem dX2_keepCondition_16 : decode cX2_keepCondition 16 = .ok (.iconst 1, 1) := by decide +kernel
theorem dX2_keepCondition_17 : decode cX2_keepCondition 17 = .ok (.isub, 1) := by decide +kernel
theorem dX2_keepCondition_18 : decode cX2_keepCondition 18 = .ok (.bipush 8, 2) := by decide +kernel
theorem dX2_keepCondition_20 : decode cX2_keepCondition 20 = .ok (.imul, 1) := by decide +kernel
theorem dX2_keepCondition_21 : decode cX2_keepCondition 21 = .ok (.iload_n 1, 1) := by decide +kernel
theorem dX2_keepCondition_22 : decode cX2_keepCondition 22 = .ok (.iadd, 1) := by decide +kernel
theorem dX2_keepCondition_23 : decode cX2_keepCondition 23 = .ok (.aload_n 0, 1) := by decide +kernel
theorem dX2_keepCondition_24 : decode cX2_keepCondition 24 = .ok (.getfield 12, 3) := by decide +kernel
theorem dX2_keepCondition_27 : decode cX2_keepCondition 27 = .ok (.iload_n 1, 1) := by decide +kernel
theorem dX2_keepCondition_28 : decode cX2_keepCondition 28 = .ok (.invokevirtual 124, 3) := by decide +kernel
theorem dX2_keepCondition_31 : decode cX2_keepCondition 31 = .ok (.lastore, 1) := by decide +kernel
theorem dX2_keepCondition_32 : decode cX2_keepCondition 32 = .ok (.iinc 1 1, 3) := by decide +kernel
theorem dX2_keepCondition_35 : decode cX2_keepCondition 35 = .ok (.goto (-33), 3) := by decide +kernel
theorem dX2_keepCondition_38 : decode cX2_keepCondition 38 = .ok (.return_, 1) := by decide +kernel
theorem dX6_init_0 : decode cX6_init 0 = .ok (.aload_n 0, 1) := by decide +kernel
theorem dX6_init_1 : decode cX6_init 1 = .ok (.invokespecial 3, 3) := by decide +kernel
theorem dX6_init_4 : decode cX6_init 4 = .ok (.aload_n 0, 1) := by decide +kernel
theorem dX6_init_5 : decode cX6_init 5 = .ok (.bipush 120, 2) := by decide +kernel
theorem dX6_init_7 : decode cX6_init 7 = .ok (.newarray .char, 2) := by decide +kernel
theorem dX6_init_9 : decode cX6_init 9 = .ok (.putfield 9, 3) := by decide +kernel
theorem dX6_init_12 : decode cX6_init 12 = .ok (.return_, 1) := by decide +kernel
theorem dX6_isFull_0 : decode cX6_isFull 0 = .ok (.aload_n 0, 1) := by decide +kernel
theorem dX6_isFull_1 : decode cX6_isFull 1 = .ok (.getfield 15, 3) := by decide +kernel
theorem dX6_isFull_4 : decode cX6_isFull 4 = .ok (.bipush 120, 2) := by decide +kernel
theorem dX6_isFull_6 : decode cX6_isFull 6 = .ok (.if_icmp .lt 7, 3) := by decide +kernel
theorem dX6_isFull_9 : decode cX6_isFull 9 = .ok (.iconst 1, 1) := by decide +kernel
theorem dX6_isFull_10 : decode cX6_isFull 10 = .ok (.goto 4, 3) := by decide +kernel
theorem dX6_isFull_13 : decode cX6_isFull 13 = .ok (.iconst 0, 1) := by decide +kernel
theorem dX6_isFull_14 : decode cX6_isFull 14 = .ok (.ireturn, 1) := by decide +kernel
theorem dX6_length_0 : decode cX6_length 0 = .ok (.aload_n 0, 1) := by decide +kernel
theorem dX6_length_1 : decode cX6_length 1 = .ok (.getfield 15, 3) := by decide +kernel
theorem dX6_length_4 : decode cX6_length 4 = .ok (.ireturn, 1) := by decide +kernel
theorem dX6_add_0 : decode cX6_add 0 = .ok (.aload_n 0, 1) := by decide +kernel
theorem dX6_add_1 : decode cX6_add 1 = .ok (.getfield 15, 3) := by decide +kernel
theorem dX6_add_4 : decode cX6_add 4 = .ok (.bipush 120, 2) := by decide +kernel
theorem dX6_add_6 : decode cX6_add 6 = .ok (.if_icmp .ge 24, 3) := by decide +kernel
theorem dX6_add_9 : decode cX6_add 9 = .ok (.aload_n 0, 1) := by decide +kernel
theorem dX6_add_10 : decode cX6_add 10 = .ok (.getfield 9, 3) := by decide +kernel
theorem dX6_add_13 : decode cX6_add 13 = .ok (.aload_n 0, 1) := by decide +kernel
theorem dX6_add_14 : decode cX6_add 14 = .ok (.getfield 15, 3) := by decide +kernel
theorem dX6_add_17 : decode cX6_add 17 = .ok (.iload_n 1, 1) := by decide +kernel
theorem dX6_add_18 : decode cX6_add 18 = .ok (.i2c, 1) := by decide +kernel
theorem dX6_add_19 : decode cX6_add 19 = .ok (.castore, 1) := by decide +kernel
theorem dX6_add_20 : decode cX6_add 20 = .ok (.aload_n 0, 1) := by decide +kernel
theorem dX6_add_21 : decode cX6_add 21 = .ok (.dup, 1) := by decide +kernel
theorem dX6_add_22 : decode cX6_add 22 = .ok (.getfield 15, 3) := by decide +kernel
theorem dX6_add_25 : decode cX6_add 25 = .ok (.iconst 1, 1) := by decide +kernel
theorem dX6_add_26 : decode cX6_add 26 = .ok (.iadd, 1) := by decide +kernel
theorem dX6_add_27 : decode cX6_add 27 = .ok (.putfield 15, 3) := by decide +kernel
theorem dX6_add_30 : decode cX6_add 30 = .ok (.aload_n 0, 1) := by decide +kernel
theorem dX6_add_31 : decode cX6_add 31 = .ok (.getfield 15, 3) := by decide +kernel
theorem dX6_add_34 : decode cX6_add 34 = .ok (.ireturn, 1) := by decide +kernel
theorem dX6_empty_0 : decode cX6_empty 0 = .ok (.aload_n 0, 1) := by decide +kernel
theorem dX6_empty_1 : decode cX6_empty 1 = .ok (.getfield 15, 3) := by decide +kernel
theorem dX6_empty_4 : decode cX6_empty 4 = .ok (.istore_n 1, 1) := by decide +kernel
theorem dX6_empty_5 : decode cX6_empty 5 = .ok (.aload_n 0, 1) := by decide +kernel
theorem dX6_empty_6 : decode cX6_empty 6 = .ok (.iconst 0, 1) := by decide +kernel
theorem dX6_empty_7 : decode cX6_empty 7 = .ok (.putfield 15, 3) := by decide +kernel
theorem dX6_empty_10 : decode cX6_empty 10 = .ok (.iload_n 1, 1) := by decide +kernel
theorem dX6_empty_11 : decode cX6_empty 11 = .ok (.ireturn, 1) := by decide +kernel
theorem dX6_signAt_0 : decode cX6_signAt 0 = .ok (.iload_n 1, 1) := by decide +kernel
theorem dX6_signAt_1 : decode cX6_signAt 1 = .ok (.ifCond .lt 20, 3) := by decide +kernel
theorem dX6_signAt_4 : decode cX6_signAt 4 = .ok (.iload_n 1, 1) := by decide +kernel
theorem dX6_signAt_5 : decode cX6_signAt 5 = .ok (.aload_n 0, 1) := by decide +kernel
theorem dX6_signAt_6 : decode cX6_signAt 6 = .ok (.getfield 15, 3) := by decide +kernel
theorem dX6_signAt_9 : decode cX6_signAt 9 = .ok (.if_icmp .ge 12, 3) := by decide +kernel
theorem dX6_signAt_12 : decode cX6_signAt 12 = .ok (.aload_n 0, 1) := by decide +kernel
theorem dX6_signAt_13 : decode cX6_signAt 13 = .ok (.getfield 9, 3) := by decide +kernel
theorem dX6_signAt_16 : decode cX6_signAt 16 = .ok (.iload_n 1, 1) := by decide +kernel
theorem dX6_signAt_17 : decode cX6_signAt 17 = .ok (.caload, 1) := by decide +kernel
theorem dX6_signAt_18 : decode cX6_signAt 18 = .ok (.goto 4, 3) := by decide +kernel
theorem dX6_signAt_21 : decode cX6_signAt 21 = .ok (.iconst 0, 1) := by decide +kernel
theorem dX6_signAt_22 : decode cX6_signAt 22 = .ok (.ireturn, 1) := by decide +kernel
theorem dX7_init_0 : decode cX7_init 0 = .ok (.aload_n 0, 1) := by decide +kernel
theorem dX7_init_1 : decode cX7_init 1 = .ok (.invokespecial 3, 3) := by decide +kernel
theorem dX7_init_4 : decode cX7_init 4 = .ok (.aload_n 0, 1) := by decide +kernel
theorem dX7_init_5 : decode cX7_init 5 = .ok (.sipush 960, 3) := by decide +kernel
theorem dX7_init_8 : decode cX7_init 8 = .ok (.newarray .long, 2) := by decide +kernel
theorem dX7_init_10 : decode cX7_init 10 = .ok (.putfield 9, 3) := by decide +kernel
theorem dX7_init_13 : decode cX7_init 13 = .ok (.return_, 1) := by decide +kernel
theorem dX7_clear_0 : decode cX7_clear 0 = .ok (.aload_n 0, 1) := by decide +kernel
theorem dX7_clear_1 : decode cX7_clear 1 = .ok (.iconst 0, 1) := by decide +kernel
theorem dX7_clear_2 : decode cX7_clear 2 = .ok (.putfield 15, 3) := by decide +kernel
theorem dX7_clear_5 : decode cX7_clear 5 = .ok (.return_, 1) := by decide +kernel
theorem dX7_pushAlways_0 : decode cX7_pushAlways 0 = .ok (.aload_n 0, 1) := by decide +kernel
theorem dX7_pushAlways_1 : decode cX7_pushAlways 1 = .ok (.getfield 15, 3) := by decide +kernel
theorem dX7_pushAlways_4 : decode cX7_pushAlways 4 = .ok (.bipush 120, 2) := by decide +kernel
theorem dX7_pushAlways_6 : decode cX7_pushAlways 6 = .ok (.if_icmp .lt 4, 3) := by decide +kernel
theorem dX7_pushAlways_9 : decode cX7_pushAlways 9 = .ok (.return_, 1) := by decide +kernel
theorem dX7_pushAlways_10 : decode cX7_pushAlways 10 = .ok (.iconst 0, 1) := by decide +kernel
theorem dX7_pushAlways_11 : decode cX7_pushAlways 11 = .ok (.istore_n 1, 1) := by decide +kernel
theorem dX7_pushAlways_12 : decode cX7_pushAlways 12 = .ok (.iload_n 1, 1) := by decide +kernel
theorem dX7_pushAlways_13 : decode cX7_pushAlways 13 = .ok (.bipush 8, 2) := by decide +kernel
theorem dX7_pushAlways_15 : decode cX7_pushAlways 15 = .ok (.if_icmp .ge 26, 3) := by decide +kernel
theorem dX7_pushAlways_18 : decode cX7_pushAlways 18 = .ok (.aload_n 0, 1) := by decide +kernel
theorem dX7_pushAlways_19 : decode cX7_pushAlways 19 = .ok (.getfield 9, 3) := by decide +kernel
theorem dX7_pushAlways_22 : decode cX7_pushAlways 22 = .ok (.aload_n 0, 1) := by decide +kernel
theorem dX7_pushAlways_23 : decode cX7_pushAlways 23 = .ok (.getfield 15, 3) := by decide +kernel
theorem dX7_pushAlways_26 : decode cX7_pushAlways 26 = .ok (.bipush 8, 2) := by decide +kernel
theorem dX7_pushAlways_28 : decode cX7_pushAlways 28 = .ok (.imul, 1) := by decide +kernel
theorem dX7_pushAlways_29 : decode cX7_pushAlways 29 = .ok (.iload_n 1, 1) := by decide +kernel
theorem dX7_pushAlways_30 : decode cX7_pushAlways 30 = .ok (.iadd, 1) := by decide +kernel
theorem dX7_pushAlways_31 : decode cX7_pushAlways 31 = .ok (.ldc2_w 19, 3) := by decide +kernel
theorem dX7_pushAlways_34 : decode cX7_pushAlways 34 = .ok (.lastore, 1) := by decide +kernel
theorem dX7_pushAlways_35 : decode cX7_pushAlways 35 = .ok (.iinc 1 1, 3) := by decide +kernel
theorem dX7_pushAlways_38 : decode cX7_pushAlways 38 = .ok (.goto (-26), 3) := by decide +kernel
theorem dX7_pushAlways_41 : decode cX7_pushAlways 41 = .ok (.aload_n 0, 1) := by decide +kernel
theorem dX7_pushAlways_42 : decode cX7_pushAlways 42 = .ok (.dup, 1) := by decide +kernel
theorem dX7_pushAlways_43 : decode cX7_pushAlways 43 = .ok (.getfield 15, 3) := by decide +kernel
theorem dX7_pushAlways_46 : decode cX7_pushAlways 46 = .ok (.iconst 1, 1) := by decide +kernel
theorem dX7_pushAlways_47 : decode cX7_pushAlways 47 = .ok (.iadd, 1) := by decide +kernel
theorem dX7_pushAlways_48 : decode cX7_pushAlways 48 = .ok (.putfield 15, 3) := by decide +kernel
theorem dX7_pushAlways_51 : decode cX7_pushAlways 51 = .ok (.return_, 1) := by decide +kernel
theorem dX7_pushVisited_0 : decode cX7_pushVisited 0 = .ok (.aload_n 0, 1) := by decide +kernel
theorem dX7_pushVisited_1 : decode cX7_pushVisited 1 = .ok (.getfield 15, 3) := by decide +kernel
theorem dX7_pushVisited_4 : decode cX7_pushVisited 4 = .ok (.bipush 120, 2) := by decide +kernel
theorem dX7_pushVisited_6 : decode cX7_pushVisited 6 = .ok (.if_icmp .ge 7, 3) := by decide +kernel
theorem dX7_pushVisited_9 : decode cX7_pushVisited 9 = .ok (.iload_n 1, 1) := by decide +kernel
theorem dX7_pushVisited_10 : decode cX7_pushVisited 10 = .ok (.ifCond .ge 4, 3) := by decide +kernel
theorem dX7_pushVisited_13 : decode cX7_pushVisited 13 = .ok (.return_, 1) := by decide +kernel
theorem dX7_pushVisited_14 : decode cX7_pushVisited 14 = .ok (.iconst 0, 1) := by decide +kernel
theorem dX7_pushVisited_15 : decode cX7_pushVisited 15 = .ok (.istore_n 2, 1) := by decide +kernel
theorem dX7_pushVisited_16 : decode cX7_pushVisited 16 = .ok (.iload_n 2, 1) := by decide +kernel
theorem dX7_pushVisited_17 : decode cX7_pushVisited 17 = .ok (.bipush 8, 2) := by decide +kernel
theorem dX7_pushVisited_19 : decode cX7_pushVisited 19 = .ok (.if_icmp .ge 28, 3) := by decide +kernel
theorem dX7_pushVisited_22 : decode cX7_pushVisited 22 = .ok (.aload_n 0, 1) := by decide +kernel
theorem dX7_pushVisited_23 : decode cX7_pushVisited 23 = .ok (.getfield 9, 3) := by decide +kernel
theorem dX7_pushVisited_26 : decode cX7_pushVisited 26 = .ok (.aload_n 0, 1) := by decide +kernel
theorem dX7_pushVisited_27 : decode cX7_pushVisited 27 = .ok (.getfield 15, 3) := by decide +kernel
theorem dX7_pushVisited_30 : decode cX7_pushVisited 30 = .ok (.bipush 8, 2) := by decide +kernel
theorem dX7_pushVisited_32 : decode cX7_pushVisited 32 = .ok (.imul, 1) := by decide +kernel
theorem dX7_pushVisited_33 : decode cX7_pushVisited 33 = .ok (.iload_n 2, 1) := by decide +kernel
theorem dX7_pushVisited_34 : decode cX7_pushVisited 34 = .ok (.iadd, 1) := by decide +kernel
theorem dX7_pushVisited_35 : decode cX7_pushVisited 35 = .ok (.iload_n 1, 1) := by decide +kernel
theorem dX7_pushVisited_36 : decode cX7_pushVisited 36 = .ok (.iload_n 2, 1) := by decide +kernel
theorem dX7_pushVisited_37 : decode cX7_pushVisited 37 = .ok (.invokestatic 21, 3) := by decide +kernel
theorem dX7_pushVisited_40 : decode cX7_pushVisited 40 = .ok (.lastore, 1) := by decide +kernel
theorem dX7_pushVisited_41 : decode cX7_pushVisited 41 = .ok (.iinc 2 1, 3) := by decide +kernel
theorem dX7_pushVisited_44 : decode cX7_pushVisited 44 = .ok (.goto (-28), 3) := by decide +kernel
theorem dX7_pushVisited_47 : decode cX7_pushVisited 47 = .ok (.aload_n 0, 1) := by decide +kernel
theorem dX7_pushVisited_48 : decode cX7_pushVisited 48 = .ok (.dup, 1) := by decide +kernel
theorem dX7_pushVisited_49 : decode cX7_pushVisited 49 = .ok (.getfield 15, 3) := by decide +kernel
theorem dX7_pushVisited_52 : decode cX7_pushVisited 52 = .ok (.iconst 1, 1) := by decide +kernel
theorem dX7_pushVisited_53 : decode cX7_pushVisited 53 = .ok (.iadd, 1) := by decide +kernel
theorem dX7_pushVisited_54 : decode cX7_pushVisited 54 = .ok (.putfield 15, 3) := by decide +kernel
theorem dX7_pushVisited_57 : decode cX7_pushVisited 57 = .ok (.return_, 1) := by decide +kernel
theorem dX7_visitedIn_0 : decode cX7_visitedIn 0 = .ok (.iload_n 0, 1) := by decide +kernel
theorem dX7_visitedIn_1 : decode cX7_visitedIn 1 = .ok (.getstatic 25, 3) := by decide +kernel
theorem dX7_visitedIn_4 : decode cX7_visitedIn 4 = .ok (.arraylength, 1) := by decide +kernel
theorem dX7_visitedIn_5 : decode cX7_visitedIn 5 = .ok (.if_icmp .ge 9, 3) := by decide +kernel
theorem dX7_visitedIn_8 : decode cX7_visitedIn 8 = .ok (.getstatic 25, 3) := by decide +kernel
theorem dX7_visitedIn_11 : decode cX7_visitedIn 11 = .ok (.iload_n 0, 1) := by decide +kernel
theorem dX7_visitedIn_12 : decode cX7_visitedIn 12 = .ok (.laload, 1) := by decide +kernel
theorem dX7_visitedIn_13 : decode cX7_visitedIn 13 = .ok (.lreturn, 1) := by decide +kernel
theorem dX7_visitedIn_14 : decode cX7_visitedIn 14 = .ok (.iload_n 0, 1) := by decide +kernel
theorem dX7_visitedIn_15 : decode cX7_visitedIn 15 = .ok (.getstatic 25, 3) := by decide +kernel
theorem dX7_visitedIn_18 : decode cX7_visitedIn 18 = .ok (.arraylength, 1) := by decide +kernel
theorem dX7_visitedIn_19 : decode cX7_visitedIn 19 = .ok (.isub, 1) := by decide +kernel
theorem dX7_visitedIn_20 : decode cX7_visitedIn 20 = .ok (.iload_n 1, 1) := by decide +kernel
theorem dX7_visitedIn_21 : decode cX7_visitedIn 21 = .ok (.invokestatic 28, 3) := by decide +kernel
theorem dX7_visitedIn_24 : decode cX7_visitedIn 24 = .ok (.ifCond .eq 9, 3) := by decide +kernel
theorem dX7_visitedIn_27 : decode cX7_visitedIn 27 = .ok (.ldc2_w 19, 3) := by decide +kernel
theorem dX7_visitedIn_30 : decode cX7_visitedIn 30 = .ok (.goto 4, 3) := by decide +kernel
theorem dX7_visitedIn_33 : decode cX7_visitedIn 33 = .ok (.lconst 0, 1) := by decide +kernel
theorem dX7_visitedIn_34 : decode cX7_visitedIn 34 = .ok (.lreturn, 1) := by decide +kernel
theorem dX7_negate_0 : decode cX7_negate 0 = .ok (.aload_n 0, 1) := by decide +kernel
theorem dX7_negate_1 : decode cX7_negate 1 = .ok (.getfield 15, 3) := by decide +kernel
theorem dX7_negate_4 : decode cX7_negate 4 = .ok (.iconst 1, 1) := by decide +kernel
theorem dX7_negate_5 : decode cX7_negate 5 = .ok (.if_icmp .ge 4, 3) := by decide +kernel
theorem dX7_negate_8 : decode cX7_negate 8 = .ok (.return_, 1) := by decide +kernel
theorem dX7_negate_9 : decode cX7_negate 9 = .ok (.aload_n 0, 1) := by decide +kernel
theorem dX7_negate_10 : decode cX7_negate 10 = .ok (.getfield 15, 3) := by decide +kernel
theorem dX7_negate_13 : decode cX7_negate 13 = .ok (.iconst 1, 1) := by decide +kernel
theorem dX7_negate_14 : decode cX7_negate 14 = .ok (.isub, 1) := by decide +kernel
theorem dX7_negate_15 : decode cX7_negate 15 = .ok (.bipush 8, 2) := by decide +kernel
theorem dX7_negate_17 : decode cX7_negate 17 = .ok (.imul, 1) := by decide +kernel
theorem dX7_negate_18 : decode cX7_negate 18 = .ok (.istore_n 1, 1) := by decide +kernel
theorem dX7_negate_19 : decode cX7_negate 19 = .ok (.iconst 0, 1) := by decide +kernel
theorem dX7_negate_20 : decode cX7_negate 20 = .ok (.istore_n 2, 1) := by decide +kernel
theorem dX7_negate_21 : decode cX7_negate 21 = .ok (.iload_n 2, 1) := by decide +kernel
theorem dX7_negate_22 : decode cX7_negate 22 = .ok (.bipush 8, 2) := by decide +kernel
theorem dX7_negate_24 : decode cX7_negate 24 = .ok (.if_icmp .ge 29, 3) := by decide +kernel
theorem dX7_negate_27 : decode cX7_negate 27 = .ok (.aload_n 0, 1) := by decide +kernel
theorem dX7_negate_28 : decode cX7_negate 28 = .ok (.getfield 9, 3) := by decide +kernel
theorem dX7_negate_31 : decode cX7_negate 31 = .ok (.iload_n 1, 1) := by decide +kernel
theorem dX7_negate_32 : decode cX7_negate 32 = .ok (.iload_n 2, 1) := by decide +kernel
theorem dX7_negate_33 : decode cX7_negate 33 = .ok (.iadd, 1) := by decide +kernel
theorem dX7_negate_34 : decode cX7_negate 34 = .ok (.aload_n 0, 1) := by decide +kernel
theorem dX7_negate_35 : decode cX7_negate 35 = .ok (.getfield 9, 3) := by decide +kernel
theorem dX7_negate_38 : decode cX7_negate 38 = .ok (.iload_n 1, 1) := by decide +kernel
theorem dX7_negate_39 : decode cX7_negate 39 = .ok (.iload_n 2, 1) := by decide +kernel
theorem dX7_negate_40 : decode cX7_negate 40 = .ok (.iadd, 1) := by decide +kernel
theorem dX7_negate_41 : decode cX7_negate 41 = .ok (.laload, 1) := by decide +kernel
theorem dX7_negate_42 : decode cX7_negate 42 = .ok (.ldc2_w 19, 3) := by decide +kernel
theorem dX7_negate_45 : decode cX7_negate 45 = .ok (.lxor, 1) := by decide +kernel
theorem dX7_negate_46 : decode cX7_negate 46 = .ok (.lastore, 1) := by decide +kernel
theorem dX7_negate_47 : decode cX7_negate 47 = .ok (.iinc 2 1, 3) := by decide +kernel
theorem dX7_negate_50 : decode cX7_negate 50 = .ok (.goto (-29), 3) := by decide +kernel
theorem dX7_negate_53 : decode cX7_negate 53 = .ok (.return_, 1) := by decide +kernel
theorem dX7_joinByAnd_0 : decode cX7_joinByAnd 0 = .ok (.aload_n 0, 1) := by decide +kernel
theorem dX7_joinByAnd_1 : decode cX7_joinByAnd 1 = .ok (.getfield 15, 3) := by decide +kernel
theorem dX7_joinByAnd_4 : decode cX7_joinByAnd 4 = .ok (.iconst 2, 1) := by decide +kernel
theorem dX7_joinByAnd_5 : decode cX7_joinByAnd 5 = .ok (.if_icmp .ge 4, 3) := by decide +kernel
theorem dX7_joinByAnd_8 : decode cX7_joinByAnd 8 = .ok (.return_, 1) := by decide +kernel
theorem dX7_joinByAnd_9 : decode cX7_joinByAnd 9 = .ok (.aload_n 0, 1) := by decide +kernel
theorem dX7_joinByAnd_10 : decode cX7_joinByAnd 10 = .ok (.dup, 1) := by decide +kernel
theorem dX7_joinByAnd_11 : decode cX7_joinByAnd 11 = .ok (.getfield 15, 3) := by decide +kernel
theorem dX7_joinByAnd_14 : decode cX7_joinByAnd 14 = .ok (.iconst 1, 1) := by decide +kernel
theorem dX7_joinByAnd_15 : decode cX7_joinByAnd 15 = .ok (.isub, 1) := by decide +kernel
theorem dX7_joinByAnd_16 : decode cX7_joinByAnd 16 = .ok (.putfield 15, 3) := by decide +kernel
theorem dX7_joinByAnd_19 : decode cX7_joinByAnd 19 = .ok (.iconst 0, 1) := by decide +kernel
theorem dX7_joinByAnd_20 : decode cX7_joinByAnd 20 = .ok (.istore_n 1, 1) := by decide +kernel
theorem dX7_joinByAnd_21 : decode cX7_joinByAnd 21 = .ok (.iload_n 1, 1) := by decide +kernel
theorem dX7_joinByAnd_22 : decode cX7_joinByAnd 22 = .ok (.bipush 8, 2) := by decide +kernel
theorem dX7_joinByAnd_24 : decode cX7_joinByAnd 24 = .ok (.if_icmp .ge 42, 3) := by decide +kernel
theorem dX7_joinByAnd_27 : decode cX7_joinByAnd 27 = .ok (.aload_n 0, 1) := by decide +kernel
theorem dX7_joinByAnd_28 : decode cX7_joinByAnd 28 = .ok (.getfield 9, 3) := by decide +kernel
theorem dX7_joinByAnd_31 : decode cX7_joinByAnd 31 = .ok (.aload_n 0, 1) := by decide +kernel
theorem dX7_joinByAnd_32 : decode cX7_joinByAnd 32 = .ok (.getfield 15, 3) := by decide +kernel
theorem dX7_joinByAnd_35 : decode cX7_joinByAnd 35 = .ok (.iconst 1, 1) := by decide +kernel
theorem dX7_joinByAnd_36 : decode cX7_joinByAnd 36 = .ok (.isub, 1) := by decide +kernel
theorem dX7_joinByAnd_37 : decode cX7_joinByAnd 37 = .ok (.bipush 8, 2) := by decide +kernel
theorem dX7_joinByAnd_39 : decode cX7_joinByAnd 39 = .ok (.imul, 1) := by decide +kernel
theorem dX7_joinByAnd_40 : decode cX7_joinByAnd 40 = .ok (.iload_n 1, 1) := by decide +kernel
theorem dX7_joinByAnd_41 : decode cX7_joinByAnd 41 = .ok (.iadd, 1) := by decide +kernel
theorem dX7_joinByAnd_42 : decode cX7_joinByAnd 42 = .ok (.dup2, 1) := by decide +kernel
theorem dX7_joinByAnd_43 : decode cX7_joinByAnd 43 = .ok (.laload, 1) := by decide +kernel
theorem dX7_joinByAnd_44 : decode cX7_joinByAnd 44 = .ok (.aload_n 0, 1) := by decide +kernel
theorem dX7_joinByAnd_45 : decode cX7_joinByAnd 45 = .ok (.getfield 9, 3) := by decide +kernel
theorem dX7_joinByAnd_48 : decode cX7_joinByAnd 48 = .ok (.aload_n 0, 1) := by decide +kernel
theorem dX7_joinByAnd_49 : decode cX7_joinByAnd 49 = .ok (.getfield 15, 3) := by decide +kernel
theorem dX7_joinByAnd_52 : decode cX7_joinByAnd 52 = .ok (.bipush 8, 2) := by decide +kernel
theorem dX7_joinByAnd_54 : decode cX7_joinByAnd 54 = .ok (.imul, 1) := by decide +kernel
theorem dX7_joinByAnd_55 : decode cX7_joinByAnd 55 = .ok (.iload_n 1, 1) := by decide +kernel
theorem dX7_joinByAnd_56 : decode cX7_joinByAnd 56 = .ok (.iadd, 1) := by decide +kernel
theorem dX7_joinByAnd_57 : decode cX7_joinByAnd 57 = .ok (.laload, 1) := by decide +kernel
theorem dX7_joinByAnd_58 : decode cX7_joinByAnd 58 = .ok (.land, 1) := by decide +kernel
theorem dX7_joinByAnd_59 : decode cX7_joinByAnd 59 = .ok (.lastore, 1) := by decide +kernel
theorem dX7_joinByAnd_60 : decode cX7_joinByAnd 60 = .ok (.iinc 1 1, 3) := by decide +kernel
theorem dX7_joinByAnd_63 : decode cX7_joinByAnd 63 = .ok (.goto (-42), 3) := by decide +kernel
theorem dX7_joinByAnd_66 : decode cX7_joinByAnd 66 = .ok (.return_, 1) := by decide +kernel
theorem dX7_joinByOr_0 : decode cX7_joinByOr 0 = .ok (.aload_n 0, 1) := by decide +kernel
theorem dX7_joinByOr_1 : decode cX7_joinByOr 1 = .ok (.getfield 15, 3) := by decide +kernel
theorem dX7_joinByOr_4 : decode cX7_joinByOr 4 = .ok (.iconst 2, 1) := by decide +kernel
theorem dX7_joinByOr_5 : decode cX7_joinByOr 5 = .ok (.if_icmp .ge 4, 3) := by decide +kernel
theorem dX7_joinByOr_8 : decode cX7_joinByOr 8 = .ok (.return_, 1) := by decide +kernel
theorem dX7_joinByOr_9 : decode cX7_joinByOr 9 = .ok (.aload_n 0, 1) := by decide +kernel
theorem dX7_joinByOr_10 : decode cX7_joinByOr 10 = .ok (.dup, 1) := by decide +kernel
theorem dX7_joinByOr_11 : decode cX7_joinByOr 11 = .ok (.getfield 15, 3) := by decide +kernel
theorem dX7_joinByOr_14 : decode cX7_joinByOr 14 = .ok (.iconst 1, 1) := by decide +kernel
theorem dX7_joinByOr_15 : decode cX7_joinByOr 15 = .ok (.isub, 1) := by decide +kernel
theorem dX7_joinByOr_16 : decode cX7_joinByOr 16 = .ok (.putfield 15, 3) := by decide +kernel
theorem dX7_joinByOr_19 : decode cX7_joinByOr 19 = .ok (.iconst 0, 1) := by decide +kernel
theorem dX7_joinByOr_20 : decode cX7_joinByOr 20 = .ok (.istore_n 1, 1) := by decide +kernel
theorem dX7_joinByOr_21 : decode cX7_joinByOr 21 = .ok (.iload_n 1, 1) := by decide +kernel
theorem dX7_joinByOr_22 : decode cX7_joinByOr 22 = .ok (.bipush 8, 2) := by decide +kernel
theorem dX7_joinByOr_24 : decode cX7_joinByOr 24 = .ok (.if_icmp .ge 42, 3) := by decide +kernel
theorem dX7_joinByOr_27 : decode cX7_joinByOr 27 = .ok (.aload_n 0, 1) := by decide +kernel
theorem dX7_joinByOr_28 : decode cX7_joinByOr 28 = .ok (.getfield 9, 3) := by decide +kernel
theorem dX7_joinByOr_31 : decode cX7_joinByOr 31 = .ok (.aload_n 0, 1) := by decide +kernel
theorem dX7_joinByOr_32 : decode cX7_joinByOr 32 = .ok (.getfield 15, 3) := by decide +kernel
theorem dX7_joinByOr_35 : decode cX7_joinByOr 35 = .ok (.iconst 1, 1) := by decide +kernel
theorem dX7_joinByOr_36 : decode cX7_joinByOr 36 = .ok (.isub, 1) := by decide +kernel
theorem dX7_joinByOr_37 : decode cX7_joinByOr 37 = .ok (.bipush 8, 2) := by decide +kernel
theorem dX7_joinByOr_39 : decode cX7_joinByOr 39 = .ok (.imul, 1) := by decide +kernel
theorem dX7_joinByOr_40 : decode cX7_joinByOr 40 = .ok (.iload_n 1, 1) := by decide +kernel
theorem dX7_joinByOr_41 : decode cX7_joinByOr 41 = .ok (.iadd, 1) := by decide +kernel
theorem dX7_joinByOr_42 : decode cX7_joinByOr 42 = .ok (.dup2, 1) := by decide +kernel
theorem dX7_joinByOr_43 : decode cX7_joinByOr 43 = .ok (.laload, 1) := by decide +kernel
theorem dX7_joinByOr_44 : decode cX7_joinByOr 44 = .ok (.aload_n 0, 1) := by decide +kernel
theorem dX7_joinByOr_45 : decode cX7_joinByOr 45 = .ok (.getfield 9, 3) := by decide +kernel
theorem dX7_joinByOr_48 : decode cX7_joinByOr 48 = .ok (.aload_n 0, 1) := by decide +kernel
theorem dX7_joinByOr_49 : decode cX7_joinByOr 49 = .ok (.getfield 15, 3) := by decide +kernel
theorem dX7_joinByOr_52 : decode cX7_joinByOr 52 = .ok (.bipush 8, 2) := by decide +kernel
theorem dX7_joinByOr_54 : decode cX7_joinByOr 54 = .ok (.imul, 1) := by decide +kernel
theorem dX7_joinByOr_55 : decode cX7_joinByOr 55 = .ok (.iload_n 1, 1) := by decide +kernel
theorem dX7_joinByOr_56 : decode cX7_joinByOr 56 = .ok (.iadd, 1) := by decide +kernel
theorem dX7_joinByOr_57 : decode cX7_joinByOr 57 = .ok (.laload, 1) := by decide +kernel
theorem dX7_joinByOr_58 : decode cX7_joinByOr 58 = .ok (.lor, 1) := by decide +kernel
theorem dX7_joinByOr_59 : decode cX7_joinByOr 59 = .ok (.lastore, 1) := by decide +kernel
theorem dX7_joinByOr_60 : decode cX7_joinByOr 60 = .ok (.iinc 1 1, 3) := by decide +kernel
theorem dX7_joinByOr_63 : decode cX7_joinByOr 63 = .ok (.goto (-42), 3) := by decide +kernel
theorem dX7_joinByOr_66 : decode cX7_joinByOr 66 = .ok (.return_, 1) := by decide +kernel
theorem dX7_joinByCount_0 : decode cX7_joinByCount 0 = .ok (.iload_n 2, 1) := by decide +kernel
theorem dX7_joinByCount_1 : decode cX7_joinByCount 1 = .ok (.iconst 1, 1) := by decide +kernel
theorem dX7_joinByCount_2 : decode cX7_joinByCount 2 = .ok (.if_icmp .lt 11, 3) := by decide +kernel
theorem dX7_joinByCount_5 : decode cX7_joinByCount 5 = .ok (.iload_n 2, 1) := by decide +kernel
theorem dX7_joinByCount_6 : decode cX7_joinByCount 6 = .ok (.aload_n 0, 1) := by decide +kernel
theorem dX7_joinByCount_7 : decode cX7_joinByCount 7 = .ok (.getfield 15, 3) := by decide +kernel
theorem dX7_joinByCount_10 : decode cX7_joinByCount 10 = .ok (.if_icmp .le 4, 3) := by decide +kernel
theorem dX7_joinByCount_13 : decode cX7_joinByCount 13 = .ok (.return_, 1) := by decide +kernel
theorem dX7_joinByCount_14 : decode cX7_joinByCount 14 = .ok (.aload_n 0, 1) := by decide +kernel
theorem dX7_joinByCount_15 : decode cX7_joinByCount 15 = .ok (.getfield 15, 3) := by decide +kernel
theorem dX7_joinByCount_18 : decode cX7_joinByCount 18 = .ok (.iload_n 2, 1) := by decide +kernel
theorem dX7_joinByCount_19 : decode cX7_joinByCount 19 = .ok (.isub, 1) := by decide +kernel
theorem dX7_joinByCount_20 : decode cX7_joinByCount 20 = .ok (.istore_n 3, 1) := by decide +kernel
theorem dX7_joinByCount_21 : decode cX7_joinByCount 21 = .ok (.iconst 0, 1) := by decide +kernel
theorem dX7_joinByCount_22 : decode cX7_joinByCount 22 = .ok (.istore 4, 2) := by decide +kernel
theorem dX7_joinByCount_24 : decode cX7_joinByCount 24 = .ok (.iload 4, 2) := by decide +kernel
theorem dX7_joinByCount_26 : decode cX7_joinByCount 26 = .ok (.bipush 8, 2) := by decide +kernel
theorem dX7_joinByCount_28 : decode cX7_joinByCount 28 = .ok (.if_icmp .ge 29, 3) := by decide +kernel
theorem dX7_joinByCount_31 : decode cX7_joinByCount 31 = .ok (.aload_n 0, 1) := by decide +kernel
theorem dX7_joinByCount_32 : decode cX7_joinByCount 32 = .ok (.getfield 9, 3) := by decide +kernel
theorem dX7_joinByCount_35 : decode cX7_joinByCount 35 = .ok (.iload_n 3, 1) := by decide +kernel
theorem dX7_joinByCount_36 : decode cX7_joinByCount 36 = .ok (.bipush 8, 2) := by decide +kernel
theorem dX7_joinByCount_38 : decode cX7_joinByCount 38 = .ok (.imul, 1) := by decide +kernel
theorem dX7_joinByCount_39 : decode cX7_joinByCount 39 = .ok (.iload 4, 2) := by decide +kernel
theorem dX7_joinByCount_41 : decode cX7_joinByCount 41 = .ok (.iadd, 1) := by decide +kernel
theorem dX7_joinByCount_42 : decode cX7_joinByCount 42 = .ok (.aload_n 0, 1) := by decide +kernel
theorem dX7_joinByCount_43 : decode cX7_joinByCount 43 = .ok (.iload_n 1, 1) := by decide +kernel
theorem dX7_joinByCount_44 : decode cX7_joinByCount 44 = .ok (.iload_n 3, 1) := by decide +kernel
theorem dX7_joinByCount_45 : decode cX7_joinByCount 45 = .ok (.iload 4, 2) := by decide +kernel
theorem dX7_joinByCount_47 : decode cX7_joinByCount 47 = .ok (.invokevirtual 32, 3) := by decide +kernel
theorem dX7_joinByCount_50 : decode cX7_joinByCount 50 = .ok (.lastore, 1) := by decide +kernel
theorem dX7_joinByCount_51 : decode cX7_joinByCount 51 = .ok (.iinc 4 1, 3) := by decide +kernel
theorem dX7_joinByCount_54 : decode cX7_joinByCount 54 = .ok (.goto (-30), 3) := by decide +kernel
theorem dX7_joinByCount_57 : decode cX7_joinByCount 57 = .ok (.aload_n 0, 1) := by decide +kernel
theorem dX7_joinByCount_58 : decode cX7_joinByCount 58 = .ok (.iload_n 3, 1) := by decide +kernel
theorem dX7_joinByCount_59 : decode cX7_joinByCount 59 = .ok (.iconst 1, 1) := by decide +kernel
theorem dX7_joinByCount_60 : decode cX7_joinByCount 60 = .ok (.iadd, 1) := by decide +kernel
theorem dX7_joinByCount_61 : decode cX7_joinByCount 61 = .ok (.putfield 15, 3) := by decide +kernel
theorem dX7_joinByCount_64 : decode cX7_joinByCount 64 = .ok (.return_, 1) := by decide +kernel
theorem dX7_atLeast_0 : decode cX7_atLeast 0 = .ok (.lconst 0, 1) := by decide +kernel
theorem dX7_atLeast_1 : decode cX7_atLeast 1 = .ok (.lstore 4, 2) := by decide +kernel
theorem dX7_atLeast_3 : decode cX7_atLeast 3 = .ok (.lconst 0, 1) := by decide +kernel
theorem dX7_atLeast_4 : decode cX7_atLeast 4 = .ok (.lstore 6, 2) := by decide +kernel
theorem dX7_atLeast_6 : decode cX7_atLeast 6 = .ok (.lconst 0, 1) := by decide +kernel
theorem dX7_atLeast_7 : decode cX7_atLeast 7 = .ok (.lstore 8, 2) := by decide +kernel
theorem dX7_atLeast_9 : decode cX7_atLeast 9 = .ok (.lconst 0, 1) := by decide +kernel
theorem dX7_atLeast_10 : decode cX7_atLeast 10 = .ok (.lstore 10, 2) := by decide +kernel
theorem dX7_atLeast_12 : decode cX7_atLeast 12 = .ok (.iload_n 2, 1) := by decide +kernel
theorem dX7_atLeast_13 : decode cX7_atLeast 13 = .ok (.istore 12, 2) := by decide +kernel
theorem dX7_atLeast_15 : decode cX7_atLeast 15 = .ok (.iload 12, 2) := by decide +kernel
theorem dX7_atLeast_17 : decode cX7_atLeast 17 = .ok (.aload_n 0, 1) := by decide +kernel
theorem dX7_atLeast_18 : decode cX7_atLeast 18 = .ok (.getfield 15, 3) := by decide +kernel
theorem dX7_atLeast_21 : decode cX7_atLeast 21 = .ok (.if_icmp .ge 60, 3) := by decide +kernel
theorem dX7_atLeast_24 : decode cX7_atLeast 24 = .ok (.aload_n 0, 1) := by decide +kernel
theorem dX7_atLeast_25 : decode cX7_atLeast 25 = .ok (.getfield 9, 3) := by decide +kernel
theorem dX7_atLeast_28 : decode cX7_atLeast 28 = .ok (.iload 12, 2) := by decide +kernel
theorem dX7_atLeast_30 : decode cX7_atLeast 30 = .ok (.bipush 8, 2) := by decide +kernel
theorem dX7_atLeast_32 : decode cX7_atLeast 32 = .ok (.imul, 1) := by decide +kernel
theorem dX7_atLeast_33 : decode cX7_atLeast 33 = .ok (.iload_n 3, 1) := by decide +kernel
theorem dX7_atLeast_34 : decode cX7_atLeast 34 = .ok (.iadd, 1) := by decide +kernel
theorem dX7_atLeast_35 : decode cX7_atLeast 35 = .ok (.laload, 1) := by decide +kernel
theorem dX7_atLeast_36 : decode cX7_atLeast 36 = .ok (.lstore 13, 2) := by decide +kernel
theorem dX7_atLeast_38 : decode cX7_atLeast 38 = .ok (.lload 10, 2) := by decide +kernel
theorem dX7_atLeast_40 : decode cX7_atLeast 40 = .ok (.lload 8, 2) := by decide +kernel
theorem dX7_atLeast_42 : decode cX7_atLeast 42 = .ok (.lload 13, 2) := by decide +kernel
theorem dX7_atLeast_44 : decode cX7_atLeast 44 = .ok (.land, 1) := by decide +kernel
theorem dX7_atLeast_45 : decode cX7_atLeast 45 = .ok (.lor, 1) := by decide +kernel
theorem dX7_atLeast_46 : decode cX7_atLeast 46 = .ok (.lstore 10, 2) := by decide +kernel
theorem dX7_atLeast_48 : decode cX7_atLeast 48 = .ok (.lload 8, 2) := by decide +kernel
theorem dX7_atLeast_50 : decode cX7_atLeast 50 = .ok (.lload 6, 2) := by decide +kernel
theorem dX7_atLeast_52 : decode cX7_atLeast 52 = .ok (.lload 13, 2) := by decide +kernel
theorem dX7_atLeast_54 : decode cX7_atLeast 54 = .ok (.land, 1) := by decide +kernel
theorem dX7_atLeast_55 : decode cX7_atLeast 55 = .ok (.lor, 1) := by decide +kernel
theorem dX7_atLeast_56 : decode cX7_atLeast 56 = .ok (.lstore 8, 2) := by decide +kernel
theorem dX7_atLeast_58 : decode cX7_atLeast 58 = .ok (.lload 6, 2) := by decide +kernel
theorem dX7_atLeast_60 : decode cX7_atLeast 60 = .ok (.lload 4, 2) := by decide +kernel
theorem dX7_atLeast_62 : decode cX7_atLeast 62 = .ok (.lload 13, 2) := by decide +kernel
theorem dX7_atLeast_64 : decode cX7_atLeast 64 = .ok (.land, 1) := by decide +kernel
theorem dX7_atLeast_65 : decode cX7_atLeast 65 = .ok (.lor, 1) := by decide +kernel
theorem dX7_atLeast_66 : decode cX7_atLeast 66 = .ok (.lstore 6, 2) := by decide +kernel
theorem dX7_atLeast_68 : decode cX7_atLeast 68 = .ok (.lload 4, 2) := by decide +kernel
theorem dX7_atLeast_70 : decode cX7_atLeast 70 = .ok (.lload 13, 2) := by decide +kernel
theorem dX7_atLeast_72 : decode cX7_atLeast 72 = .ok (.lor, 1) := by decide +kernel
theorem dX7_atLeast_73 : decode cX7_atLeast 73 = .ok (.lstore 4, 2) := by decide +kernel
theorem dX7_atLeast_75 : decode cX7_atLeast 75 = .ok (.iinc 12 1, 3) := by decide +kernel
theorem dX7_atLeast_78 : decode cX7_atLeast 78 = .ok (.goto (-63), 3) := by decide +kernel
theorem dX7_atLeast_81 : decode cX7_atLeast 81 = .ok (.iload_n 1, 1) := by decide +kernel
theorem dX7_atLeast_82 : decode cX7_atLeast 82 = .ok (.iconst 1, 1) := by decide +kernel
theorem dX7_atLeast_83 : decode cX7_atLeast 83 = .ok (.if_icmp .gt 8, 3) := by decide +kernel
theorem dX7_atLeast_86 : decode cX7_atLeast 86 = .ok (.lload 4, 2) := by decide +kernel
theorem dX7_atLeast_88 : decode cX7_atLeast 88 = .ok (.goto 25, 3) := by decide +kernel
theorem dX7_atLeast_91 : decode cX7_atLeast 91 = .ok (.iload_n 1, 1) := by decide +kernel
theorem dX7_atLeast_92 : decode cX7_atLeast 92 = .ok (.iconst 2, 1) := by decide +kernel
theorem dX7_atLeast_93 : decode cX7_atLeast 93 = .ok (.if_icmp .ne 8, 3) := by decide +kernel
theorem dX7_atLeast_96 : decode cX7_atLeast 96 = .ok (.lload 6, 2) := by decide +kernel
theorem dX7_atLeast_98 : decode cX7_atLeast 98 = .ok (.goto 15, 3) := by decide +kernel
theorem dX7_atLeast_101 : decode cX7_atLeast 101 = .ok (.iload_n 1, 1) := by decide +kernel
theorem dX7_atLeast_102 : decode cX7_atLeast 102 = .ok (.iconst 3, 1) := by decide +kernel
theorem dX7_atLeast_103 : decode cX7_atLeast 103 = .ok (.if_icmp .ne 8, 3) := by decide +kernel
theorem dX7_atLeast_106 : decode cX7_atLeast 106 = .ok (.lload 8, 2) := by decide +kernel
theorem dX7_atLeast_108 : decode cX7_atLeast 108 = .ok (.goto 5, 3) := by decide +kernel
theorem dX7_atLeast_111 : decode cX7_atLeast 111 = .ok (.lload 10, 2) := by decide +kernel
theorem dX7_atLeast_113 : decode cX7_atLeast 113 = .ok (.lreturn, 1) := by decide +kernel
theorem dX7_result_0 : decode cX7_result 0 = .ok (.iload_n 1, 1) := by decide +kernel
theorem dX7_result_1 : decode cX7_result 1 = .ok (.ifCond .lt 18, 3) := by decide +kernel
theorem dX7_result_4 : decode cX7_result 4 = .ok (.iload_n 1, 1) := by decide +kernel
theorem dX7_result_5 : decode cX7_result 5 = .ok (.bipush 8, 2) := by decide +kernel
theorem dX7_result_7 : decode cX7_result 7 = .ok (.if_icmp .ge 12, 3) := by decide +kernel
theorem dX7_result_10 : decode cX7_result 10 = .ok (.aload_n 0, 1) := by decide +kernel
theorem dX7_result_11 : decode cX7_result 11 = .ok (.getfield 9, 3) := by decide +kernel
theorem dX7_result_14 : decode cX7_result 14 = .ok (.iload_n 1, 1) := by decide +kernel
theorem dX7_result_15 : decode cX7_result 15 = .ok (.laload, 1) := by decide +kernel
theorem dX7_result_16 : decode cX7_result 16 = .ok (.goto 4, 3) := by decide +kernel
theorem dX7_result_19 : decode cX7_result 19 = .ok (.lconst 0, 1) := by decide +kernel
theorem dX7_result_20 : decode cX7_result 20 = .ok (.lreturn, 1) := by decide +kernel
theorem dJ6_bitCount_0f7a4_0 : decode cJ6_bitCount_0f7a4 0 = .ok (.iload_n 0, 1) := by decide +kernel
theorem dJ6_bitCount_0f7a4_1 : decode cJ6_bitCount_0f7a4 1 = .ok (.iload_n 0, 1) := by decide +kernel
theorem dJ6_bitCount_0f7a4_2 : decode cJ6_bitCount_0f7a4 2 = .ok (.iconst 1, 1) := by decide +kernel
theorem dJ6_bitCount_0f7a4_3 : decode cJ6_bitCount_0f7a4 3 = .ok (.iushr, 1) := by decide +kernel
theorem dJ6_bitCount_0f7a4_4 : decode cJ6_bitCount_0f7a4 4 = .ok (.ldc_w 265, 3) := by decide +kernel
theorem dJ6_bitCount_0f7a4_7 : decode cJ6_bitCount_0f7a4 7 = .ok (.iand, 1) := by decide +kernel
theorem dJ6_bitCount_0f7a4_8 : decode cJ6_bitCount_0f7a4 8 = .ok (.isub, 1) := by decide +kernel
theorem dJ6_bitCount_0f7a4_9 : decode cJ6_bitCount_0f7a4 9 = .ok (.istore_n 0, 1) := by decide +kernel
theorem dJ6_bitCount_0f7a4_10 : decode cJ6_bitCount_0f7a4 10 = .ok (.iload_n 0, 1) := by decide +kernel
theorem dJ6_bitCount_0f7a4_11 : decode cJ6_bitCount_0f7a4 11 = .ok (.ldc_w 266, 3) := by decide +kernel
theorem dJ6_bitCount_0f7a4_14 : decode cJ6_bitCount_0f7a4 14 = .ok (.iand, 1) := by decide +kernel
theorem dJ6_bitCount_0f7a4_15 : decode cJ6_bitCount_0f7a4 15 = .ok (.iload_n 0, 1) := by decide +kernel
theorem dJ6_bitCount_0f7a4_16 : decode cJ6_bitCount_0f7a4 16 = .ok (.iconst 2, 1) := by decide +kernel
theorem dJ6_bitCount_0f7a4_17 : decode cJ6_bitCount_0f7a4 17 = .ok (.iushr, 1) := by decide +kernel
theorem dJ6_bitCount_0f7a4_18 : decode cJ6_bitCount_0f7a4 18 = .ok (.ldc_w 266, 3) := by decide +kernel
theorem dJ6_bitCount_0f7a4_21 : decode cJ6_bitCount_0f7a4 21 = .ok (.iand, 1) := by decide +kernel
theorem dJ6_bitCount_0f7a4_22 : decode cJ6_bitCount_0f7a4 22 = .ok (.iadd, 1) := by decide +kernel
theorem dJ6_bitCount_0f7a4_23 : decode cJ6_bitCount_0f7a4 23 = .ok (.istore_n 0, 1) := by decide +kernel
theorem dJ6_bitCount_0f7a4_24 : decode cJ6_bitCount_0f7a4 24 = .ok (.iload_n 0, 1) := by decide +kernel
theorem dJ6_bitCount_0f7a4_25 : decode cJ6_bitCount_0f7a4 25 = .ok (.iload_n 0, 1) := by decide +kernel
theorem dJ6_bitCount_0f7a4_26 : decode cJ6_bitCount_0f7a4 26 = .ok (.iconst 4, 1) := by decide +kernel
theorem dJ6_bitCount_0f7a4_27 : decode cJ6_bitCount_0f7a4 27 = .ok (.iushr, 1) := by decide +kernel
theorem dJ6_bitCount_0f7a4_28 : decode cJ6_bitCount_0f7a4 28 = .ok (.iadd, 1) := by decide +kernel
theorem dJ6_bitCount_0f7a4_29 : decode cJ6_bitCount_0f7a4 29 = .ok (.ldc_w 267, 3) := by decide +kernel
theorem dJ6_bitCount_0f7a4_32 : decode cJ6_bitCount_0f7a4 32 = .ok (.iand, 1) := by decide +kernel
theorem dJ6_bitCount_0f7a4_33 : decode cJ6_bitCount_0f7a4 33 = .ok (.istore_n 0, 1) := by decide +kernel
theorem dJ6_bitCount_0f7a4_34 : decode cJ6_bitCount_0f7a4 34 = .ok (.iload_n 0, 1) := by decide +kernel
theorem dJ6_bitCount_0f7a4_35 : decode cJ6_bitCount_0f7a4 35 = .ok (.iload_n 0, 1) := by decide +kernel
theorem dJ6_bitCount_0f7a4_36 : decode cJ6_bitCount_0f7a4 36 = .ok (.bipush 8, 2) := by decide +kernel
theorem dJ6_bitCount_0f7a4_38 : decode cJ6_bitCount_0f7a4 38 = .ok (.iushr, 1) := by decide +kernel
theorem dJ6_bitCount_0f7a4_39 : decode cJ6_bitCount_0f7a4 39 = .ok (.iadd, 1) := by decide +kernel
theorem dJ6_bitCount_0f7a4_40 : decode cJ6_bitCount_0f7a4 40 = .ok (.istore_n 0, 1) := by decide +kernel
theorem dJ6_bitCount_0f7a4_41 : decode cJ6_bitCount_0f7a4 41 = .ok (.iload_n 0, 1) := by decide +kernel
theorem dJ6_bitCount_0f7a4_42 : decode cJ6_bitCount_0f7a4 42 = .ok (.iload_n 0, 1) := by decide +kernel
theorem dJ6_bitCount_0f7a4_43 : decode cJ6_bitCount_0f7a4 43 = .ok (.bipush 16, 2) := by decide +kernel
theorem dJ6_bitCount_0f7a4_45 : decode cJ6_bitCount_0f7a4 45 = .ok (.iushr, 1) := by decide +kernel
theorem dJ6_bitCount_0f7a4_46 : decode cJ6_bitCount_0f7a4 46 = .ok (.iadd, 1) := by decide +kernel
theorem dJ6_bitCount_0f7a4_47 : decode cJ6_bitCount_0f7a4 47 = .ok (.istore_n 0, 1) := by decide +kernel
theorem dJ6_bitCount_0f7a4_48 : decode cJ6_bitCount_0f7a4 48 = .ok (.iload_n 0, 1) := by decide +kernel
theorem dJ6_bitCount_0f7a4_49 : decode cJ6_bitCount_0f7a4 49 = .ok (.bipush 63, 2) := by decide +kernel
theorem dJ6_bitCount_0f7a4_51 : decode cJ6_bitCount_0f7a4 51 = .ok (.iand, 1) := by decide +kernel
theorem dJ6_bitCount_0f7a4_52 : decode cJ6_bitCount_0f7a4 52 = .ok (.ireturn, 1) := by decide +kernel
theorem dJ9_abs_0f7a4_0 : decode cJ9_abs_0f7a4 0 = .ok (.iload_n 0, 1) := by decide +kernel
theorem dJ9_abs_0f7a4_1 : decode cJ9_abs_0f7a4 1 = .ok (.ifCond .ge 8, 3) := by decide +kernel
theorem dJ9_abs_0f7a4_4 : decode cJ9_abs_0f7a4 4 = .ok (.iload_n 0, 1) := by decide +kernel
theorem dJ9_abs_0f7a4_5 : decode cJ9_abs_0f7a4 5 = .ok (.ineg, 1) := by decide +kernel
theorem dJ9_abs_0f7a4_6 : decode cJ9_abs_0f7a4 6 = .ok (.goto 4, 3) := by decide +kernel
theorem dJ9_abs_0f7a4_9 : decode cJ9_abs_0f7a4 9 = .ok (.iload_n 0, 1) := by decide +kernel
theorem dJ9_abs_0f7a4_10 : decode cJ9_abs_0f7a4 10 = .ok (.ireturn, 1) := by decide +kernel
theorem dJ9_max_7cf53_0 : decode cJ9_max_7cf53 0 = .ok (.iload_n 0, 1) := by decide +kernel
theorem dJ9_max_7cf53_1 : decode cJ9_max_7cf53 1 = .ok (.iload_n 1, 1) := by decide +kernel
theorem dJ9_max_7cf53_2 : decode cJ9_max_7cf53 2 = .ok (.if_icmp .lt 7, 3) := by decide +kernel
theorem dJ9_max_7cf53_5 : decode cJ9_max_7cf53 5 = .ok (.iload_n 0, 1) := by decide +kernel
theorem dJ9_max_7cf53_6 : decode cJ9_max_7cf53 6 = .ok (.goto 4, 3) := by decide +kernel
theorem dJ9_max_7cf53_9 : decode cJ9_max_7cf53 9 = .ok (.iload_n 1, 1) := by decide +kernel
theorem dJ9_max_7cf53_10 : decode cJ9_max_7cf53 10 = .ok (.ireturn, 1) := by decide +kernel
theorem dJ9_min_7cf53_0 : decode cJ9_min_7cf53 0 = .ok (.iload_n 0, 1) := by decide +kernel
theorem dJ9_min_7cf53_1 : decode cJ9_min_7cf53 1 = .ok (.iload_n 1, 1) := by decide +kernel
theorem dJ9_min_7cf53_2 : decode cJ9_min_7cf53 2 = .ok (.if_icmp .gt 7, 3) := by decide +kernel
theorem dJ9_min_7cf53_5 : decode cJ9_min_7cf53 5 = .ok (.iload_n 0, 1) := by decide +kernel
theorem dJ9_min_7cf53_6 : decode cJ9_min_7cf53 6 = .ok (.goto 4, 3) := by decide +kernel
theorem dJ9_min_7cf53_9 : decode cJ9_min_7cf53 9 = .ok (.iload_n 1, 1) := by decide +kernel
theorem dJ9_min_7cf53_10 : decode cJ9_min_7cf53 10 = .ok (.ireturn, 1) := by decide +kernel
