theorem dX8_bars_27 : decode cX8_bars 27 = .ok (.iadd, 1) := by decide +kernel
theorem dX8_bars_28 : decode cX8_bars 28 = .ok (.invokevirtual 160, 3) := by decide +kernel
theorem dX8_bars_31 : decode cX8_bars 31 = .ok (.bipush (-6), 2) := by decide +kernel
theorem dX8_bars_33 : decode cX8_bars 33 = .ok (.if_icmp .ne 5, 3) := by decide +kernel
theorem dX8_bars_36 : decode cX8_bars 36 = .ok (.iload_n 2, 1) := by decide +kernel
theorem dX8_bars_37 : decode cX8_bars 37 = .ok (.ireturn, 1) := by decide +kernel
theorem dX8_bars_38 : decode cX8_bars 38 = .ok (.iinc 2 1, 3) := by decide +kernel
theorem dX8_bars_41 : decode cX8_bars 41 = .ok (.goto (-28), 3) := by decide +kernel
theorem dX8_bars_44 : decode cX8_bars 44 = .ok (.bipush (-6), 2) := by decide +kernel
theorem dX8_bars_46 : decode cX8_bars 46 = .ok (.ireturn, 1) := by decide +kernel
theorem dX8_seen_0 : decode cX8_seen 0 = .ok (.iload_n 1, 1) := by decide +kernel
theorem dX8_seen_1 : decode cX8_seen 1 = .ok (.iconst 0, 1) := by decide +kernel
theorem dX8_seen_2 : decode cX8_seen 2 = .ok (.bipush 60, 2) := by decide +kernel
theorem dX8_seen_4 : decode cX8_seen 4 = .ok (.invokestatic 64, 3) := by decide +kernel
theorem dX8_seen_7 : decode cX8_seen 7 = .ok (.ifCond .eq 13, 3) := by decide +kernel
theorem dX8_seen_10 : decode cX8_seen 10 = .ok (.iload_n 2, 1) := by decide +kernel
theorem dX8_seen_11 : decode cX8_seen 11 = .ok (.iconst 0, 1) := by decide +kernel
theorem dX8_seen_12 : decode cX8_seen 12 = .ok (.bipush 30, 2) := by decide +kernel
theorem dX8_seen_14 : decode cX8_seen 14 = .ok (.invokestatic 64, 3) := by decide +kernel
theorem dX8_seen_17 : decode cX8_seen 17 = .ok (.ifCond .ne 6, 3) := by decide +kernel
theorem dX8_seen_20 : decode cX8_seen 20 = .ok (.bipush (-2), 2) := by decide +kernel
theorem dX8_seen_22 : decode cX8_seen 22 = .ok (.ireturn, 1) := by decide +kernel
theorem dX8_seen_23 : decode cX8_seen 23 = .ok (.aload_n 0, 1) := by decide +kernel
theorem dX8_seen_24 : decode cX8_seen 24 = .ok (.getfield 10, 3) := by decide +kernel
theorem dX8_seen_27 : decode cX8_seen 27 = .ok (.iload_n 1, 1) := by decide +kernel
theorem dX8_seen_28 : decode cX8_seen 28 = .ok (.iload_n 2, 1) := by decide +kernel
theorem dX8_seen_29 : decode cX8_seen 29 = .ok (.invokevirtual 163, 3) := by decide +kernel
theorem dX8_seen_32 : decode cX8_seen 32 = .ok (.ireturn, 1) := by decide +kernel
theorem dX8_forget_0 : decode cX8_forget 0 = .ok (.aload_n 0, 1) := by decide +kernel
theorem dX8_forget_1 : decode cX8_forget 1 = .ok (.getfield 10, 3) := by decide +kernel
theorem dX8_forget_4 : decode cX8_forget 4 = .ok (.getfield 166, 3) := by decide +kernel
theorem dX8_forget_7 : decode cX8_forget 7 = .ok (.istore_n 1, 1) := by decide +kernel
theorem dX8_forget_8 : decode cX8_forget 8 = .ok (.aload_n 0, 1) := by decide +kernel
theorem dX8_forget_9 : decode cX8_forget 9 = .ok (.getfield 10, 3) := by decide +kernel
theorem dX8_forget_12 : decode cX8_forget 12 = .ok (.iconst 0, 1) := by decide +kernel
theorem dX8_forget_13 : decode cX8_forget 13 = .ok (.putfield 166, 3) := by decide +kernel
theorem dX8_forget_16 : decode cX8_forget 16 = .ok (.iload_n 1, 1) := by decide +kernel
theorem dX8_forget_17 : decode cX8_forget 17 = .ok (.ireturn, 1) := by decide +kernel
theorem dX8_worlds_0 : decode cX8_worlds 0 = .ok (.iload_n 1, 1) := by decide +kernel
theorem dX8_worlds_1 : decode cX8_worlds 1 = .ok (.iconst 0, 1) := by decide +kernel
theorem dX8_worlds_2 : decode cX8_worlds 2 = .ok (.iconst 3, 1) := by decide +kernel
theorem dX8_worlds_3 : decode cX8_worlds 3 = .ok (.invokestatic 64, 3) := by decide +kernel
theorem dX8_worlds_6 : decode cX8_worlds 6 = .ok (.ifCond .ne 6, 3) := by decide +kernel
theorem dX8_worlds_9 : decode cX8_worlds 9 = .ok (.bipush (-2), 2) := by decide +kernel
theorem dX8_worlds_11 : decode cX8_worlds 11 = .ok (.ireturn, 1) := by decide +kernel
theorem dX8_worlds_12 : decode cX8_worlds 12 = .ok (.aload_n 0, 1) := by decide +kernel
theorem dX8_worlds_13 : decode cX8_worlds 13 = .ok (.invokevirtual 169, 3) := by decide +kernel
theorem dX8_worlds_16 : decode cX8_worlds 16 = .ok (.ifCond .ne 6, 3) := by decide +kernel
theorem dX8_worlds_19 : decode cX8_worlds 19 = .ok (.bipush (-5), 2) := by decide +kernel
theorem dX8_worlds_21 : decode cX8_worlds 21 = .ok (.ireturn, 1) := by decide +kernel
theorem dX8_worlds_22 : decode cX8_worlds 22 = .ok (.iload_n 1, 1) := by decide +kernel
theorem dX8_worlds_23 : decode cX8_worlds 23 = .ok (.tableswitch 49 0 2 #[25, 33, 41], 25) := by decide +kernel
theorem dX8_worlds_48 : decode cX8_worlds 48 = .ok (.aload_n 0, 1) := by decide +kernel
theorem dX8_worlds_49 : decode cX8_worlds 49 = .ok (.getfield 46, 3) := by decide +kernel
theorem dX8_worlds_52 : decode cX8_worlds 52 = .ok (.getfield 173, 3) := by decide +kernel
theorem dX8_worlds_55 : decode cX8_worlds 55 = .ok (.ireturn, 1) := by decide +kernel
theorem dX8_worlds_56 : decode cX8_worlds 56 = .ok (.aload_n 0, 1) := by decide +kernel
theorem dX8_worlds_57 : decode cX8_worlds 57 = .ok (.getfield 46, 3) := by decide +kernel
theorem dX8_worlds_60 : decode cX8_worlds 60 = .ok (.getfield 174, 3) := by decide +kernel
theorem dX8_worlds_63 : decode cX8_worlds 63 = .ok (.ireturn, 1) := by decide +kernel
theorem dX8_worlds_64 : decode cX8_worlds 64 = .ok (.aload_n 0, 1) := by decide +kernel
theorem dX8_worlds_65 : decode cX8_worlds 65 = .ok (.getfield 46, 3) := by decide +kernel
theorem dX8_worlds_68 : decode cX8_worlds 68 = .ok (.getfield 177, 3) := by decide +kernel
theorem dX8_worlds_71 : decode cX8_worlds 71 = .ok (.ireturn, 1) := by decide +kernel
theorem dX8_worlds_72 : decode cX8_worlds 72 = .ok (.aload_n 0, 1) := by decide +kernel
theorem dX8_worlds_73 : decode cX8_worlds 73 = .ok (.getfield 46, 3) := by decide +kernel
theorem dX8_worlds_76 : decode cX8_worlds 76 = .ok (.getfield 180, 3) := by decide +kernel
theorem dX8_worlds_79 : decode cX8_worlds 79 = .ok (.ireturn, 1) := by decide +kernel
theorem dX8_tell_0 : decode cX8_tell 0 = .ok (.iload_n 1, 1) := by decide +kernel
theorem dX8_tell_1 : decode cX8_tell 1 = .ok (.iconst 0, 1) := by decide +kernel
theorem dX8_tell_2 : decode cX8_tell 2 = .ok (.iconst 1, 1) := by decide +kernel
theorem dX8_tell_3 : decode cX8_tell 3 = .ok (.invokestatic 64, 3) := by decide +kernel
theorem dX8_tell_6 : decode cX8_tell 6 = .ok (.ifCond .ne 6, 3) := by decide +kernel
theorem dX8_tell_9 : decode cX8_tell 9 = .ok (.bipush (-2), 2) := by decide +kernel
theorem dX8_tell_11 : decode cX8_tell 11 = .ok (.ireturn, 1) := by decide +kernel
theorem dX8_tell_12 : decode cX8_tell 12 = .ok (.aload_n 0, 1) := by decide +kernel
theorem dX8_tell_13 : decode cX8_tell 13 = .ok (.invokevirtual 169, 3) := by decide +kernel
theorem dX8_tell_16 : decode cX8_tell 16 = .ok (.ifCond .ne 6, 3) := by decide +kernel
theorem dX8_tell_19 : decode cX8_tell 19 = .ok (.bipush (-5), 2) := by decide +kernel
theorem dX8_tell_21 : decode cX8_tell 21 = .ok (.ireturn, 1) := by decide +kernel
theorem dX8_tell_22 : decode cX8_tell 22 = .ok (.aload_n 0, 1) := by decide +kernel
theorem dX8_tell_23 : decode cX8_tell 23 = .ok (.getfield 46, 3) := by decide +kernel
theorem dX8_tell_26 : decode cX8_tell 26 = .ok (.getfield 173, 3) := by decide +kernel
theorem dX8_tell_29 : decode cX8_tell 29 = .ok (.ifCond .ne 6, 3) := by decide +kernel
theorem dX8_tell_32 : decode cX8_tell 32 = .ok (.bipush (-6), 2) := by decide +kernel
theorem dX8_tell_34 : decode cX8_tell 34 = .ok (.ireturn, 1) := by decide +kernel
theorem dX8_tell_35 : decode cX8_tell 35 = .ok (.aload_n 0, 1) := by decide +kernel
theorem dX8_tell_36 : decode cX8_tell 36 = .ok (.getfield 46, 3) := by decide +kernel
theorem dX8_tell_39 : decode cX8_tell 39 = .ok (.aload_n 0, 1) := by decide +kernel
theorem dX8_tell_40 : decode cX8_tell 40 = .ok (.getfield 10, 3) := by decide +kernel
theorem dX8_tell_43 : decode cX8_tell 43 = .ok (.getfield 68, 3) := by decide +kernel
theorem dX8_tell_46 : decode cX8_tell 46 = .ok (.invokevirtual 183, 3) := by decide +kernel
theorem dX8_tell_49 : decode cX8_tell 49 = .ok (.istore_n 2, 1) := by decide +kernel
theorem dX8_tell_50 : decode cX8_tell 50 = .ok (.iload_n 1, 1) := by decide +kernel
theorem dX8_tell_51 : decode cX8_tell 51 = .ok (.ifCond .ne 7, 3) := by decide +kernel
theorem dX8_tell_54 : decode cX8_tell 54 = .ok (.iload_n 2, 1) := by decide +kernel
theorem dX8_tell_55 : decode cX8_tell 55 = .ok (.goto 11, 3) := by decide +kernel
theorem dX8_tell_58 : decode cX8_tell 58 = .ok (.aload_n 0, 1) := by decide +kernel
theorem dX8_tell_59 : decode cX8_tell 59 = .ok (.getfield 46, 3) := by decide +kernel
theorem dX8_tell_62 : decode cX8_tell 62 = .ok (.iload_n 2, 1) := by decide +kernel
theorem dX8_tell_63 : decode cX8_tell 63 = .ok (.invokevirtual 186, 3) := by decide +kernel
theorem dX8_tell_66 : decode cX8_tell 66 = .ok (.ireturn, 1) := by decide +kernel
theorem dX8_says_0 : decode cX8_says 0 = .ok (.iload_n 1, 1) := by decide +kernel
theorem dX8_says_1 : decode cX8_says 1 = .ok (.invokestatic 79, 3) := by decide +kernel
theorem dX8_says_4 : decode cX8_says 4 = .ok (.ifCond .ne 5, 3) := by decide +kernel
theorem dX8_says_7 : decode cX8_says 7 = .ok (.iconst (-1), 1) := by decide +kernel
theorem dX8_says_8 : decode cX8_says 8 = .ok (.ireturn, 1) := by decide +kernel
theorem dX8_says_9 : decode cX8_says 9 = .ok (.aload_n 0, 1) := by decide +kernel
theorem dX8_says_10 : decode cX8_says 10 = .ok (.getfield 32, 3) := by decide +kernel
theorem dX8_says_13 : decode cX8_says 13 = .ok (.aload_n 0, 1) := by decide +kernel
theorem dX8_says_14 : decode cX8_says 14 = .ok (.getfield 25, 3) := by decide +kernel
theorem dX8_says_17 : decode cX8_says 17 = .ok (.aload_n 0, 1) := by decide +kernel
theorem dX8_says_18 : decode cX8_says 18 = .ok (.getfield 10, 3) := by decide +kernel
theorem dX8_says_21 : decode cX8_says 21 = .ok (.getfield 68, 3) := by decide +kernel
theorem dX8_says_24 : decode cX8_says 24 = .ok (.invokevirtual 110, 3) := by decide +kernel
theorem dX8_says_27 : decode cX8_says 27 = .ok (.bipush (-6), 2) := by decide +kernel
theorem dX8_says_29 : decode cX8_says 29 = .ok (.if_icmp .eq 6, 3) := by decide +kernel
theorem dX8_says_32 : decode cX8_says 32 = .ok (.bipush (-5), 2) := by decide +kernel
theorem dX8_says_34 : decode cX8_says 34 = .ok (.ireturn, 1) := by decide +kernel
theorem dX8_says_35 : decode cX8_says 35 = .ok (.aload_n 0, 1) := by decide +kernel
theorem dX8_says_36 : decode cX8_says 36 = .ok (.getfield 32, 3) := by decide +kernel
theorem dX8_says_39 : decode cX8_says 39 = .ok (.iload_n 1, 1) := by decide +kernel
theorem dX8_says_40 : decode cX8_says 40 = .ok (.aload_n 0, 1) := by decide +kernel
theorem dX8_says_41 : decode cX8_says 41 = .ok (.getfield 10, 3) := by decide +kernel
theorem dX8_says_44 : decode cX8_says 44 = .ok (.getfield 76, 3) := by decide +kernel
theorem dX8_says_47 : decode cX8_says 47 = .ok (.invokevirtual 189, 3) := by decide +kernel
theorem dX8_says_50 : decode cX8_says 50 = .ok (.ireturn, 1) := by decide +kernel
theorem dX8_orders_0 : decode cX8_orders 0 = .ok (.iload_n 1, 1) := by decide +kernel
theorem dX8_orders_1 : decode cX8_orders 1 = .ok (.iload_n 2, 1) := by decide +kernel
theorem dX8_orders_2 : decode cX8_orders 2 = .ok (.iload_n 3, 1) := by decide +kernel
theorem dX8_orders_3 : decode cX8_orders 3 = .ok (.invokestatic 192, 3) := by decide +kernel
theorem dX8_orders_6 : decode cX8_orders 6 = .ok (.ifCond .eq 14, 3) := by decide +kernel
theorem dX8_orders_9 : decode cX8_orders 9 = .ok (.iload 4, 2) := by decide +kernel
theorem dX8_orders_11 : decode cX8_orders 11 = .ok (.iconst 0, 1) := by decide +kernel
theorem dX8_orders_12 : decode cX8_orders 12 = .ok (.bipush 50, 2) := by decide +kernel
theorem dX8_orders_14 : decode cX8_orders 14 = .ok (.invokestatic 64, 3) := by decide +kernel
theorem dX8_orders_17 : decode cX8_orders 17 = .ok (.ifCond .ne 7, 3) := by decide +kernel
theorem dX8_orders_20 : decode cX8_orders 20 = .ok (.ldc2_w 195, 3) := by decide +kernel
theorem dX8_orders_23 : decode cX8_orders 23 = .ok (.lreturn, 1) := by decide +kernel
theorem dX8_orders_24 : decode cX8_orders 24 = .ok (.aload_n 0, 1) := by decide +kernel
theorem dX8_orders_25 : decode cX8_orders 25 = .ok (.getfield 53, 3) := by decide +kernel
theorem dX8_orders_28 : decode cX8_orders 28 = .ok (.iload_n 1, 1) := by decide +kernel
theorem dX8_orders_29 : decode cX8_orders 29 = .ok (.iload_n 2, 1) := by decide +kernel
theorem dX8_orders_30 : decode cX8_orders 30 = .ok (.iload_n 3, 1) := by decide +kernel
theorem dX8_orders_31 : decode cX8_orders 31 = .ok (.iload 4, 2) := by decide +kernel
theorem dX8_orders_33 : decode cX8_orders 33 = .ok (.invokevirtual 197, 3) := by decide +kernel
theorem dX8_orders_36 : decode cX8_orders 36 = .ok (.lreturn, 1) := by decide +kernel
theorem dX8_left_0 : decode cX8_left 0 = .ok (.iload_n 1, 1) := by decide +kernel
theorem dX8_left_1 : decode cX8_left 1 = .ok (.iload_n 2, 1) := by decide +kernel
theorem dX8_left_2 : decode cX8_left 2 = .ok (.iload_n 3, 1) := by decide +kernel
theorem dX8_left_3 : decode cX8_left 3 = .ok (.invokestatic 192, 3) := by decide +kernel
theorem dX8_left_6 : decode cX8_left 6 = .ok (.ifCond .eq 13, 3) := by decide +kernel
theorem dX8_left_9 : decode cX8_left 9 = .ok (.iload 4, 2) := by decide +kernel
theorem dX8_left_11 : decode cX8_left 11 = .ok (.iconst 0, 1) := by decide +kernel
theorem dX8_left_12 : decode cX8_left 12 = .ok (.iconst 1, 1) := by decide +kernel
theorem dX8_left_13 : decode cX8_left 13 = .ok (.invokestatic 64, 3) := by decide +kernel
theorem dX8_left_16 : decode cX8_left 16 = .ok (.ifCond .ne 6, 3) := by decide +kernel
theorem dX8_left_19 : decode cX8_left 19 = .ok (.bipush (-2), 2) := by decide +kernel
theorem dX8_left_21 : decode cX8_left 21 = .ok (.ireturn, 1) := by decide +kernel
theorem dX8_left_22 : decode cX8_left 22 = .ok (.iload 4, 2) := by decide +kernel
theorem dX8_left_24 : decode cX8_left 24 = .ok (.ifCond .ne 15, 3) := by decide +kernel
theorem dX8_left_27 : decode cX8_left 27 = .ok (.iconst 0, 1) := by decide +kernel
theorem dX8_left_28 : decode cX8_left 28 = .ok (.iload_n 3, 1) := by decide +kernel
theorem dX8_left_29 : decode cX8_left 29 = .ok (.iload_n 2, 1) := by decide +kernel
theorem dX8_left_30 : decode cX8_left 30 = .ok (.iadd, 1) := by decide +kernel
theorem dX8_left_31 : decode cX8_left 31 = .ok (.iload_n 1, 1) := by decide +kernel
theorem dX8_left_32 : decode cX8_left 32 = .ok (.isub, 1) := by decide +kernel
theorem dX8_left_33 : decode cX8_left 33 = .ok (.invokestatic 201, 3) := by decide +kernel
theorem dX8_left_36 : decode cX8_left 36 = .ok (.goto 12, 3) := by decide +kernel
theorem dX8_left_39 : decode cX8_left 39 = .ok (.iconst 0, 1) := by decide +kernel
theorem dX8_left_40 : decode cX8_left 40 = .ok (.iload_n 3, 1) := by decide +kernel
theorem dX8_left_41 : decode cX8_left 41 = .ok (.iload_n 1, 1) := by decide +kernel
theorem dX8_left_42 : decode cX8_left 42 = .ok (.isub, 1) := by decide +kernel
theorem dX8_left_43 : decode cX8_left 43 = .ok (.invokestatic 201, 3) := by decide +kernel
theorem dX8_left_46 : decode cX8_left 46 = .ok (.iload_n 2, 1) := by decide +kernel
theorem dX8_left_47 : decode cX8_left 47 = .ok (.iadd, 1) := by decide +kernel
theorem dX8_left_48 : decode cX8_left 48 = .ok (.ireturn, 1) := by decide +kernel
theorem dX8_chance_0 : decode cX8_chance 0 = .ok (.iload_n 1, 1) := by decide +kernel
theorem dX8_chance_1 : decode cX8_chance 1 = .ok (.iload_n 2, 1) := by decide +kernel
theorem dX8_chance_2 : decode cX8_chance 2 = .ok (.invokestatic 206, 3) := by decide +kernel
theorem dX8_chance_5 : decode cX8_chance 5 = .ok (.ifCond .eq 23, 3) := by decide +kernel
theorem dX8_chance_8 : decode cX8_chance 8 = .ok (.iload_n 3, 1) := by decide +kernel
theorem dX8_chance_9 : decode cX8_chance 9 = .ok (.iconst (-1), 1) := by decide +kernel
theorem dX8_chance_10 : decode cX8_chance 10 = .ok (.bipush 50, 2) := by decide +kernel
theorem dX8_chance_12 : decode cX8_chance 12 = .ok (.invokestatic 64, 3) := by decide +kernel
theorem dX8_chance_15 : decode cX8_chance 15 = .ok (.ifCond .eq 13, 3) := by decide +kernel
theorem dX8_chance_18 : decode cX8_chance 18 = .ok (.iload 4, 2) := by decide +kernel
theorem dX8_chance_20 : decode cX8_chance 20 = .ok (.iconst 0, 1) := by decide +kernel
theorem dX8_chance_21 : decode cX8_chance 21 = .ok (.iconst 1, 1) := by decide +kernel
theorem dX8_chance_22 : decode cX8_chance 22 = .ok (.invokestatic 64, 3) := by decide +kernel
theorem dX8_chance_25 : decode cX8_chance 25 = .ok (.ifCond .ne 7, 3) := by decide +kernel
theorem dX8_chance_28 : decode cX8_chance 28 = .ok (.ldc2_w 195, 3) := by decide +kernel
theorem dX8_chance_31 : decode cX8_chance 31 = .ok (.lreturn, 1) := by decide +kernel
theorem dX8_chance_32 : decode cX8_chance 32 = .ok (.aload_n 0, 1) := by decide +kernel
theorem dX8_chance_33 : decode cX8_chance 33 = .ok (.getfield 60, 3) := by decide +kernel
theorem dX8_chance_36 : decode cX8_chance 36 = .ok (.aload_n 0, 1) := by decide +kernel
theorem dX8_chance_37 : decode cX8_chance 37 = .ok (.getfield 10, 3) := by decide +kernel
theorem dX8_chance_40 : decode cX8_chance 40 = .ok (.getfield 95, 3) := by decide +kernel
theorem dX8_chance_43 : decode cX8_chance 43 = .ok (.getfield 134, 3) := by decide +kernel
theorem dX8_chance_46 : decode cX8_chance 46 = .ok (.iload_n 1, 1) := by decide +kernel
theorem dX8_chance_47 : decode cX8_chance 47 = .ok (.iload_n 2, 1) := by decide +kernel
theorem dX8_chance_48 : decode cX8_chance 48 = .ok (.invokevirtual 210, 3) := by decide +kernel
theorem dX8_chance_51 : decode cX8_chance 51 = .ok (.iload_n 3, 1) := by decide +kernel
theorem dX8_chance_52 : decode cX8_chance 52 = .ok (.ifCond .ge 13, 3) := by decide +kernel
theorem dX8_chance_55 : decode cX8_chance 55 = .ok (.aload_n 0, 1) := by decide +kernel
theorem dX8_chance_56 : decode cX8_chance 56 = .ok (.getfield 60, 3) := by decide +kernel
theorem dX8_chance_59 : decode cX8_chance 59 = .ok (.invokevirtual 214, 3) := by decide +kernel
theorem dX8_chance_62 : decode cX8_chance 62 = .ok (.goto 11, 3) := by decide +kernel
theorem dX8_chance_65 : decode cX8_chance 65 = .ok (.aload_n 0, 1) := by decide +kernel
theorem dX8_chance_66 : decode cX8_chance 66 = .ok (.getfield 60, 3) := by decide +kernel
theorem dX8_chance_69 : decode cX8_chance 69 = .ok (.iload_n 3, 1) := by decide +kernel
theorem dX8_chance_70 : decode cX8_chance 70 = .ok (.invokevirtual 218, 3) := by decide +kernel
theorem dX8_chance_73 : decode cX8_chance 73 = .ok (.lstore 5, 2) := by decide +kernel
theorem dX8_chance_75 : decode cX8_chance 75 = .ok (.iload_n 1, 1) := by decide +kernel
theorem dX8_chance_76 : decode cX8_chance 76 = .ok (.invokestatic 222, 3) := by decide +kernel
theorem dX8_chance_79 : decode cX8_chance 79 = .ok (.lstore 7, 2) := by decide +kernel
theorem dX8_chance_81 : decode cX8_chance 81 = .ok (.lload 5, 2) := by decide +kernel
theorem dX8_chance_83 : decode cX8_chance 83 = .ok (.lload 7, 2) := by decide +kernel
theorem dX8_chance_85 : decode cX8_chance 85 = .ok (.invokestatic 225, 3) := by decide +kernel
theorem dX8_chance_88 : decode cX8_chance 88 = .ok (.lstore 9, 2) := by decide +kernel
theorem dX8_chance_90 : decode cX8_chance 90 = .ok (.lload 9, 2) := by decide +kernel
theorem dX8_chance_92 : decode cX8_chance 92 = .ok (.lconst 1, 1) := by decide +kernel
theorem dX8_chance_93 : decode cX8_chance 93 = .ok (.lcmp, 1) := by decide +kernel
theorem dX8_chance_94 : decode cX8_chance 94 = .ok (.ifCond .ge 6, 3) := by decide +kernel
theorem dX8_chance_97 : decode cX8_chance 97 = .ok (.lconst 1, 1) := by decide +kernel
theorem dX8_chance_98 : decode cX8_chance 98 = .ok (.lstore 9, 2) := by decide +kernel
theorem dX8_chance_100 : decode cX8_chance 100 = .ok (.iload 4, 2) := by decide +kernel
theorem dX8_chance_102 : decode cX8_chance 102 = .ok (.ifCond .ne 8, 3) := by decide +kernel
theorem dX8_chance_105 : decode cX8_chance 105 = .ok (.lload 5, 2) := by decide +kernel
theorem dX8_chance_107 : decode cX8_chance 107 = .ok (.goto 5, 3) := by decide +kernel
theorem dX8_chance_110 : decode cX8_chance 110 = .ok (.lload 7, 2) := by decide +kernel
theorem dX8_chance_112 : decode cX8_chance 112 = .ok (.lload 9, 2) := by decide +kernel
theorem dX8_chance_114 : decode cX8_chance 114 = .ok (.ldiv, 1) := by decide +kernel
theorem dX8_chance_115 : decode cX8_chance 115 = .ok (.lreturn, 1) := by decide +kernel
theorem dX8_over_0 : decode cX8_over 0 = .ok (.iload_n 1, 1) := by decide +kernel
theorem dX8_over_1 : decode cX8_over 1 = .ok (.iload_n 2, 1) := by decide +kernel
theorem dX8_over_2 : decode cX8_over 2 = .ok (.invokestatic 206, 3) := by decide +kernel
theorem dX8_over_5 : decode cX8_over 5 = .ok (.ifCond .eq 13, 3) := by decide +kernel
theorem dX8_over_8 : decode cX8_over 8 = .ok (.iload_n 3, 1) := by decide +kernel
theorem dX8_over_9 : decode cX8_over 9 = .ok (.iconst 0, 1) := by decide +kernel
theorem dX8_over_10 : decode cX8_over 10 = .ok (.bipush 50, 2) := by decide +kernel
theorem dX8_over_12 : decode cX8_over 12 = .ok (.invokestatic 64, 3) := by decide +kernel
theorem dX8_over_15 : decode cX8_over 15 = .ok (.ifCond .ne 6, 3) := by decide +kernel
theorem dX8_over_18 : decode cX8_over 18 = .ok (.bipush (-2), 2) := by decide +kernel
theorem dX8_over_20 : decode cX8_over 20 = .ok (.ireturn, 1) := by decide +kernel
theorem dX8_over_21 : decode cX8_over 21 = .ok (.iload 5, 2) := by decide +kernel
theorem dX8_over_23 : decode cX8_over 23 = .ok (.iconst 1, 1) := by decide +kernel
theorem dX8_over_24 : decode cX8_over 24 = .ok (.bipush 100, 2) := by decide +kernel
theorem dX8_over_26 : decode cX8_over 26 = .ok (.invokestatic 64, 3) := by decide +kernel
theorem dX8_over_29 : decode cX8_over 29 = .ok (.ifCond .eq 14, 3) := by decide +kernel
theorem dX8_over_32 : decode cX8_over 32 = .ok (.iload 4, 2) := by decide +kernel
theorem dX8_over_34 : decode cX8_over 34 = .ok (.iconst 0, 1) := by decide +kernel
theorem dX8_over_35 : decode cX8_over 35 = .ok (.iload 5, 2) := by decide +kernel
theorem dX8_over_37 : decode cX8_over 37 = .ok (.invokestatic 64, 3) := by decide +kernel
theorem dX8_over_40 : decode cX8_over 40 = .ok (.ifCond .ne 6, 3) := by decide +kernel
theorem dX8_over_43 : decode cX8_over 43 = .ok (.bipush (-2), 2) := by decide +kernel
theorem dX8_over_45 : decode cX8_over 45 = .ok (.ireturn, 1) := by decide +kernel
theorem dX8_over_46 : decode cX8_over 46 = .ok (.iload 4, 2) := by decide +kernel
theorem dX8_over_48 : decode cX8_over 48 = .ok (.i2l, 1) := by decide +kernel
theorem dX8_over_49 : decode cX8_over 49 = .ok (.iload_n 1, 1) := by decide +kernel
theorem dX8_over_50 : decode cX8_over 50 = .ok (.invokestatic 222, 3) := by decide +kernel
theorem dX8_over_53 : decode cX8_over 53 = .ok (.lmul, 1) := by decide +kernel
theorem dX8_over_54 : decode cX8_over 54 = .ok (.lstore 6, 2) := by decide +kernel
theorem dX8_over_56 : decode cX8_over 56 = .ok (.iconst 0, 1) := by decide +kernel
theorem dX8_over_57 : decode cX8_over 57 = .ok (.istore 8, 2) := by decide +kernel
theorem dX8_over_59 : decode cX8_over 59 = .ok (.iload 8, 2) := by decide +kernel
theorem dX8_over_61 : decode cX8_over 61 = .ok (.bipush 40, 2) := by decide +kernel
theorem dX8_over_63 : decode cX8_over 63 = .ok (.if_icmp .gt 52, 3) := by decide +kernel
theorem dX8_over_66 : decode cX8_over 66 = .ok (.aload_n 0, 1) := by decide +kernel
theorem dX8_over_67 : decode cX8_over 67 = .ok (.getfield 60, 3) := by decide +kernel
theorem dX8_over_70 : decode cX8_over 70 = .ok (.aload_n 0, 1) := by decide +kernel
theorem dX8_over_71 : decode cX8_over 71 = .ok (.getfield 10, 3) := by decide +kernel
theorem dX8_over_74 : decode cX8_over 74 = .ok (.getfield 95, 3) := by decide +kernel
theorem dX8_over_77 : decode cX8_over 77 = .ok (.getfield 134, 3) := by decide +kernel
theorem dX8_over_80 : decode cX8_over 80 = .ok (.iload 8, 2) := by decide +kernel
theorem dX8_over_82 : decode cX8_over 82 = .ok (.iadd, 1) := by decide +kernel
theorem dX8_over_83 : decode cX8_over 83 = .ok (.iload_n 1, 1) := by decide +kernel
theorem dX8_over_84 : decode cX8_over 84 = .ok (.iload_n 2, 1) := by decide +kernel
theorem dX8_over_85 : decode cX8_over 85 = .ok (.invokevirtual 210, 3) := by decide +kernel
theorem dX8_over_88 : decode cX8_over 88 = .ok (.aload_n 0, 1) := by decide +kernel
theorem dX8_over_89 : decode cX8_over 89 = .ok (.getfield 60, 3) := by decide +kernel
theorem dX8_over_92 : decode cX8_over 92 = .ok (.iload_n 3, 1) := by decide +kernel
theorem dX8_over_93 : decode cX8_over 93 = .ok (.invokevirtual 218, 3) := by decide +kernel
theorem dX8_over_96 : decode cX8_over 96 = .ok (.iload 5, 2) := by decide +kernel
theorem dX8_over_98 : decode cX8_over 98 = .ok (.i2l, 1) := by decide +kernel
theorem dX8_over_99 : decode cX8_over 99 = .ok (.lmul, 1) := by decide +kernel
theorem dX8_over_100 : decode cX8_over 100 = .ok (.lload 6, 2) := by decide +kernel
theorem dX8_over_102 : decode cX8_over 102 = .ok (.lcmp, 1) := by decide +kernel
theorem dX8_over_103 : decode cX8_over 103 = .ok (.ifCond .lt 6, 3) := by decide +kernel
theorem dX8_over_106 : decode cX8_over 106 = .ok (.iload 8, 2) := by decide +kernel
theorem dX8_over_108 : decode cX8_over 108 = .ok (.ireturn, 1) := by decide +kernel
theorem dX8_over_109 : decode cX8_over 109 = .ok (.iinc 8 1, 3) := by decide +kernel
theorem dX8_over_112 : decode cX8_over 112 = .ok (.goto (-53), 3) := by decide +kernel
theorem dX8_over_115 : decode cX8_over 115 = .ok (.bipush (-6), 2) := by decide +kernel
theorem dX8_over_117 : decode cX8_over 117 = .ok (.ireturn, 1) := by decide +kernel
theorem dX8_patterns_0 : decode cX8_patterns 0 = .ok (.iload_n 1, 1) := by decide +kernel
theorem dX8_patterns_1 : decode cX8_patterns 1 = .ok (.iconst 0, 1) := by decide +kernel
theorem dX8_patterns_2 : decode cX8_patterns 2 = .ok (.bipush 8, 2) := by decide +kernel
theorem dX8_patterns_4 : decode cX8_patterns 4 = .ok (.invokestatic 64, 3) := by decide +kernel
theorem dX8_patterns_7 : decode cX8_patterns 7 = .ok (.ifCond .ne 6, 3) := by decide +kernel
theorem dX8_patterns_10 : decode cX8_patterns 10 = .ok (.bipush (-2), 2) := by decide +kernel
theorem dX8_patterns_12 : decode cX8_patterns 12 = .ok (.ireturn, 1) := by decide +kernel
theorem dX8_patterns_13 : decode cX8_patterns 13 = .ok (.aload_n 0, 1) := by decide +kernel
theorem dX8_patterns_14 : decode cX8_patterns 14 = .ok (.getfield 10, 3) := by decide +kernel
theorem dX8_patterns_17 : decode cX8_patterns 17 = .ok (.iconst 1, 1) := by decide +kernel
theorem dX8_patterns_18 : decode cX8_patterns 18 = .ok (.invokevirtual 229, 3) := by decide +kernel
theorem dX8_patterns_21 : decode cX8_patterns 21 = .ok (.istore_n 2, 1) := by decide +kernel
theorem dX8_patterns_22 : decode cX8_patterns 22 = .ok (.iconst 1, 1) := by decide +kernel
theorem dX8_patterns_23 : decode cX8_patterns 23 = .ok (.istore_n 3, 1) := by decide +kernel
theorem dX8_patterns_24 : decode cX8_patterns 24 = .ok (.iconst 0, 1) := by decide +kernel
theorem dX8_patterns_25 : decode cX8_patterns 25 = .ok (.istore 4, 2) := by decide +kernel
theorem dX8_patterns_27 : decode cX8_patterns 27 = .ok (.iconst 0, 1) := by decide +kernel
theorem dX8_patterns_28 : decode cX8_patterns 28 = .ok (.istore 5, 2) := by decide +kernel
theorem dX8_patterns_30 : decode cX8_patterns 30 = .ok (.iload 5, 2) := by decide +kernel
theorem dX8_patterns_32 : decode cX8_patterns 32 = .ok (.iload_n 1, 1) := by decide +kernel
theorem dX8_patterns_33 : decode cX8_patterns 33 = .ok (.if_icmp .ge 27, 3) := by decide +kernel
theorem dX8_patterns_36 : decode cX8_patterns 36 = .ok (.iload_n 3, 1) := by decide +kernel
theorem dX8_patterns_37 : decode cX8_patterns 37 = .ok (.iload 4, 2) := by decide +kernel
theorem dX8_patterns_39 : decode cX8_patterns 39 = .ok (.iadd, 1) := by decide +kernel
theorem dX8_patterns_40 : decode cX8_patterns 40 = .ok (.istore 6, 2) := by decide +kernel
theorem dX8_patterns_42 : decode cX8_patterns 42 = .ok (.iload 6, 2) := by decide +kernel
theorem dX8_patterns_44 : decode cX8_patterns 44 = .ok (.iload_n 2, 1) := by decide +kernel
theorem dX8_patterns_45 : decode cX8_patterns 45 = .ok (.imul, 1) := by decide +kernel
theorem dX8_patterns_46 : decode cX8_patterns 46 = .ok (.iload 4, 2) := by decide +kernel
theorem dX8_patterns_48 : decode cX8_patterns 48 = .ok (.iadd, 1) := by decide +kernel
theorem dX8_patterns_49 : decode cX8_patterns 49 = .ok (.istore 4, 2) := by decide +kernel
theorem dX8_patterns_51 : decode cX8_patterns 51 = .ok (.iload 6, 2) := by decide +kernel
theorem dX8_patterns_53 : decode cX8_patterns 53 = .ok (.istore_n 3, 1) := by decide +kernel
theorem dX8_patterns_54 : decode cX8_patterns 54 = .ok (.iinc 5 1, 3) := by decide +kernel
theorem dX8_patterns_57 : decode cX8_patterns 57 = .ok (.goto (-27), 3) := by decide +kernel
theorem dX8_patterns_60 : decode cX8_patterns 60 = .ok (.iload_n 3, 1) := by decide +kernel
theorem dX8_patterns_61 : decode cX8_patterns 61 = .ok (.iload 4, 2) := by decide +kernel
theorem dX8_patterns_63 : decode cX8_patterns 63 = .ok (.iadd, 1) := by decide +kernel
theorem dX8_patterns_64 : decode cX8_patterns 64 = .ok (.ireturn, 1) := by decide +kernel
theorem dX8_draws_0 : decode cX8_draws 0 = .ok (.iload_n 1, 1) := by decide +kernel
theorem dX8_draws_1 : decode cX8_draws 1 = .ok (.iconst 0, 1) := by decide +kernel
theorem dX8_draws_2 : decode cX8_draws 2 = .ok (.sipush 9999, 3) := by decide +kernel
theorem dX8_draws_5 : decode cX8_draws 5 = .ok (.invokestatic 64, 3) := by decide +kernel
theorem dX8_draws_8 : decode cX8_draws 8 = .ok (.ifCond .eq 22, 3) := by decide +kernel
theorem dX8_draws_11 : decode cX8_draws 11 = .ok (.iload_n 2, 1) := by decide +kernel
theorem dX8_draws_12 : decode cX8_draws 12 = .ok (.iconst 1, 1) := by decide +kernel
theorem dX8_draws_13 : decode cX8_draws 13 = .ok (.bipush 99, 2) := by decide +kernel
theorem dX8_draws_15 : decode cX8_draws 15 = .ok (.invokestatic 64, 3) := by decide +kernel
theorem dX8_draws_18 : decode cX8_draws 18 = .ok (.ifCond .eq 12, 3) := by decide +kernel
theorem dX8_draws_21 : decode cX8_draws 21 = .ok (.iload_n 3, 1) := by decide +kernel
theorem dX8_draws_22 : decode cX8_draws 22 = .ok (.iconst 0, 1) := by decide +kernel
theorem dX8_draws_23 : decode cX8_draws 23 = .ok (.iconst 2, 1) := by decide +kernel
theorem dX8_draws_24 : decode cX8_draws 24 = .ok (.invokestatic 64, 3) := by decide +kernel
theorem dX8_draws_27 : decode cX8_draws 27 = .ok (.ifCond .ne 6, 3) := by decide +kernel
theorem dX8_draws_30 : decode cX8_draws 30 = .ok (.bipush (-2), 2) := by decide +kernel
theorem dX8_draws_32 : decode cX8_draws 32 = .ok (.ireturn, 1) := by decide +kernel
theorem dX8_draws_33 : decode cX8_draws 33 = .ok (.aload_n 0, 1) := by decide +kernel
theorem dX8_draws_34 : decode cX8_draws 34 = .ok (.getfield 32, 3) := by decide +kernel
theorem dX8_draws_37 : decode cX8_draws 37 = .ok (.getfield 127, 3) := by decide +kernel
theorem dX8_draws_40 : decode cX8_draws 40 = .ok (.astore 4, 2) := by decide +kernel
theorem dX8_draws_42 : decode cX8_draws 42 = .ok (.aload 4, 2) := by decide +kernel
theorem dX8_draws_44 : decode cX8_draws 44 = .ok (.aload_n 0, 1) := by decide +kernel
theorem dX8_draws_45 : decode cX8_draws 45 = .ok (.getfield 10, 3) := by decide +kernel
theorem dX8_draws_48 : decode cX8_draws 48 = .ok (.getfield 95, 3) := by decide +kernel
theorem dX8_draws_51 : decode cX8_draws 51 = .ok (.invokevirtual 151, 3) := by decide +kernel
theorem dX8_draws_54 : decode cX8_draws 54 = .ok (.iload_n 1, 1) := by decide +kernel
theorem dX8_draws_55 : decode cX8_draws 55 = .ok (.istore 5, 2) := by decide +kernel
theorem dX8_draws_57 : decode cX8_draws 57 = .ok (.iconst 0, 1) := by decide +kernel
theorem dX8_draws_58 : decode cX8_draws 58 = .ok (.istore 6, 2) := by decide +kernel
theorem dX8_draws_60 : decode cX8_draws 60 = .ok (.iload 6, 2) := by decide +kernel
theorem dX8_draws_62 : decode cX8_draws 62 = .ok (.iload_n 2, 1) := by decide +kernel
theorem dX8_draws_63 : decode cX8_draws 63 = .ok (.if_icmp .ge 71, 3) := by decide +kernel
theorem dX8_draws_66 : decode cX8_draws 66 = .ok (.bipush 75, 2) := by decide +kernel
theorem dX8_draws_68 : decode cX8_draws 68 = .ok (.iload 5, 2) := by decide +kernel
theorem dX8_draws_70 : decode cX8_draws 70 = .ok (.imul, 1) := by decide +kernel
theorem dX8_draws_71 : decode cX8_draws 71 = .ok (.bipush 74, 2) := by decide +kernel
theorem dX8_draws_73 : decode cX8_draws 73 = .ok (.iadd, 1) := by decide +kernel
theorem dX8_draws_74 : decode cX8_draws 74 = .ok (.ldc 232, 2) := by decide +kernel
theorem dX8_draws_76 : decode cX8_draws 76 = .ok (.irem, 1) := by decide +kernel
theorem dX8_draws_77 : decode cX8_draws 77 = .ok (.istore 5, 2) := by decide +kernel
theorem dX8_draws_79 : decode cX8_draws 79 = .ok (.iload 5, 2) := by decide +kernel
theorem dX8_draws_81 : decode cX8_draws 81 = .ok (.aload_n 0, 1) := by decide +kernel
theorem dX8_draws_82 : decode cX8_draws 82 = .ok (.getfield 10, 3) := by decide +kernel
theorem dX8_draws_85 : decode cX8_draws 85 = .ok (.getfield 68, 3) := by decide +kernel
theorem dX8_draws_88 : decode cX8_draws 88 = .ok (.invokestatic 233, 3) := by decide +kernel
theorem dX8_draws_91 : decode cX8_draws 91 = .ok (.istore 7, 2) := by decide +kernel
theorem dX8_draws_93 : decode cX8_draws 93 = .ok (.iload 7, 2) := by decide +kernel
theorem dX8_draws_95 : decode cX8_draws 95 = .ok (.aload_n 0, 1) := by decide +kernel
theorem dX8_draws_96 : decode cX8_draws 96 = .ok (.getfield 10, 3) := by decide +kernel
theorem dX8_draws_99 : decode cX8_draws 99 = .ok (.aload_n 0, 1) := by decide +kernel
theorem dX8_draws_100 : decode cX8_draws 100 = .ok (.getfield 10, 3) := by decide +kernel
theorem dX8_draws_103 : decode cX8_draws 103 = .ok (.getfield 76, 3) := by decide +kernel
theorem dX8_draws_106 : decode cX8_draws 106 = .ok (.aload 4, 2) := by decide +kernel
theorem dX8_draws_108 : decode cX8_draws 108 = .ok (.invokestatic 236, 3) := by decide +kernel
theorem dX8_draws_111 : decode cX8_draws 111 = .ok (.ifCond .ne 17, 3) := by decide +kernel
theorem dX8_draws_114 : decode cX8_draws 114 = .ok (.aload 4, 2) := by decide +kernel
theorem dX8_draws_116 : decode cX8_draws 116 = .ok (.iload 7, 2) := by decide +kernel
theorem dX8_draws_118 : decode cX8_draws 118 = .ok (.aload_n 0, 1) := by decide +kernel
theorem dX8_draws_119 : decode cX8_draws 119 = .ok (.getfield 10, 3) := by decide +kernel
theorem dX8_draws_122 : decode cX8_draws 122 = .ok (.getfield 76, 3) := by decide +kernel
theorem dX8_draws_125 : decode cX8_draws 125 = .ok (.invokevirtual 240, 3) := by decide +kernel
theorem dX8_draws_128 : decode cX8_draws 128 = .ok (.iinc 6 1, 3) := by decide +kernel
theorem dX8_draws_131 : decode cX8_draws 131 = .ok (.goto (-71), 3) := by decide +kernel
theorem dX8_draws_134 : decode cX8_draws 134 = .ok (.iload_n 3, 1) := by decide +kernel
theorem dX8_draws_135 : decode cX8_draws 135 = .ok (.lookupswitch 37 #[(0, 25), (1, 31)], 25) := by decide +kernel
theorem dX8_draws_160 : decode cX8_draws 160 = .ok (.aload 4, 2) := by decide +kernel
theorem dX8_draws_162 : decode cX8_draws 162 = .ok (.getfield 134, 3) := by decide +kernel
theorem dX8_draws_165 : decode cX8_draws 165 = .ok (.ireturn, 1) := by decide +kernel
theorem dX8_draws_166 : decode cX8_draws 166 = .ok (.aload 4, 2) := by decide +kernel
theorem dX8_draws_168 : decode cX8_draws 168 = .ok (.getfield 128, 3) := by decide +kernel
theorem dX8_draws_171 : decode cX8_draws 171 = .ok (.ireturn, 1) := by decide +kernel
theorem dX8_draws_172 : decode cX8_draws 172 = .ok (.aload 4, 2) := by decide +kernel
theorem dX8_draws_174 : decode cX8_draws 174 = .ok (.getfield 99, 3) := by decide +kernel
theorem dX8_draws_177 : decode cX8_draws 177 = .ok (.ireturn, 1) := by decide +kernel
theorem dX8_image_0 : decode cX8_image 0 = .ok (.iload_n 1, 1) := by decide +kernel
theorem dX8_image_1 : decode cX8_image 1 = .ok (.iconst 0, 1) := by decide +kernel
theorem dX8_image_2 : decode cX8_image 2 = .ok (.iconst 1, 1) := by decide +kernel
theorem dX8_image_3 : decode cX8_image 3 = .ok (.invokestatic 64, 3) := by decide +kernel
theorem dX8_image_6 : decode cX8_image 6 = .ok (.ifCond .ne 6, 3) := by decide +kernel
theorem dX8_image_9 : decode cX8_image 9 = .ok (.bipush (-2), 2) := by decide +kernel
theorem dX8_image_11 : decode cX8_image 11 = .ok (.ireturn, 1) := by decide +kernel
theorem dX8_image_12 : decode cX8_image 12 = .ok (.aload_n 0, 1) := by decide +kernel
theorem dX8_image_13 : decode cX8_image 13 = .ok (.iload_n 1, 1) := by decide +kernel
theorem dX8_image_14 : decode cX8_image 14 = .ok (.invokevirtual 244, 3) := by decide +kernel
theorem dX8_image_17 : decode cX8_image 17 = .ok (.astore_n 2, 1) := by decide +kernel
theorem dX8_image_18 : decode cX8_image 18 = .ok (.aload_n 2, 1) := by decide +kernel
theorem dX8_image_19 : decode cX8_image 19 = .ok (.aload_n 0, 1) := by decide +kernel
theorem dX8_image_20 : decode cX8_image 20 = .ok (.getfield 10, 3) := by decide +kernel
theorem dX8_image_23 : decode cX8_image 23 = .ok (.invokevirtual 248, 3) := by decide +kernel
theorem dX8_image_26 : decode cX8_image 26 = .ok (.aload_n 2, 1) := by decide +kernel
theorem dX8_image_27 : decode cX8_image 27 = .ok (.iconst 1, 1) := by decide +kernel
theorem dX8_image_28 : decode cX8_image 28 = .ok (.putfield 251, 3) := by decide +kernel
theorem dX8_image_31 : decode cX8_image 31 = .ok (.iconst 1, 1) := by decide +kernel
theorem dX8_image_32 : decode cX8_image 32 = .ok (.ireturn, 1) := by decide +kernel
theorem dX8_restore_0 : decode cX8_restore 0 = .ok (.iload_n 1, 1) := by decide +kernel
theorem dX8_restore_1 : decode cX8_restore 1 = .ok (.iconst 0, 1) := by decide +kernel
theorem dX8_restore_2 : decode cX8_restore 2 = .ok (.iconst 1, 1) := by decide +kernel
theorem dX8_restore_3 : decode cX8_restore 3 = .ok (.invokestatic 64, 3) := by decide +kernel
theorem dX8_restore_6 : decode cX8_restore 6 = .ok (.ifCond .ne 6, 3) := by decide +kernel
theorem dX8_restore_9 : decode cX8_restore 9 = .ok (.bipush (-2), 2) := by decide +kernel
theorem dX8_restore_11 : decode cX8_restore 11 = .ok (.ireturn, 1) := by decide +kernel
theorem dX8_restore_12 : decode cX8_restore 12 = .ok (.aload_n 0, 1) := by decide +kernel
theorem dX8_restore_13 : decode cX8_restore 13 = .ok (.iload_n 1, 1) := by decide +kernel
theorem dX8_restore_14 : decode cX8_restore 14 = .ok (.invokevirtual 244, 3) := by decide +kernel
theorem dX8_restore_17 : decode cX8_restore 17 = .ok (.astore_n 2, 1) := by decide +kernel
theorem dX8_restore_18 : decode cX8_restore 18 = .ok (.aload_n 2, 1) := by decide +kernel
theorem dX8_restore_19 : decode cX8_restore 19 = .ok (.getfield 251, 3) := by decide +kernel
theorem dX8_restore_22 : decode cX8_restore 22 = .ok (.ifCond .ne 6, 3) := by decide +kernel
theorem dX8_restore_25 : decode cX8_restore 25 = .ok (.bipush (-3), 2) := by decide +kernel
theorem dX8_restore_27 : decode cX8_restore 27 = .ok (.ireturn, 1) := by decide +kernel
theorem dX8_restore_28 : decode cX8_restore 28 = .ok (.aload_n 0, 1) := by decide +kernel
theorem dX8_restore_29 : decode cX8_restore 29 = .ok (.getfield 10, 3) := by decide +kernel
theorem dX8_restore_32 : decode cX8_restore 32 = .ok (.aload_n 2, 1) := by decide +kernel
theorem dX8_restore_33 : decode cX8_restore 33 = .ok (.invokevirtual 248, 3) := by decide +kernel
theorem dX8_restore_36 : decode cX8_restore 36 = .ok (.iconst 1, 1) := by decide +kernel
theorem dX8_restore_37 : decode cX8_restore 37 = .ok (.ireturn, 1) := by decide +kernel
theorem dX8_told_0 : decode cX8_told 0 = .ok (.iload_n 1, 1) := by decide +kernel
theorem dX8_told_1 : decode cX8_told 1 = .ok (.tableswitch 93 0 5 #[39, 47, 55, 63, 74, 85], 39) := by decide +kernel
theorem dX8_told_40 : decode cX8_told 40 = .ok (.aload_n 0, 1) := by decide +kernel
theorem dX8_told_41 : decode cX8_told 41 = .ok (.getfield 25, 3) := by decide +kernel
theorem dX8_told_44 : decode cX8_told 44 = .ok (.getfield 107, 3) := by decide +kernel
theorem dX8_told_47 : decode cX8_told 47 = .ok (.ireturn, 1) := by decide +kernel
theorem dX8_told_48 : decode cX8_told 48 = .ok (.aload_n 0, 1) := by decide +kernel
theorem dX8_told_49 : decode cX8_told 49 = .ok (.getfield 10, 3) := by decide +kernel
theorem dX8_told_52 : decode cX8_told 52 = .ok (.getfield 68, 3) := by decide +kernel
theorem dX8_told_55 : decode cX8_told 55 = .ok (.ireturn, 1) := by decide +kernel
theorem dX8_told_56 : decode cX8_told 56 = .ok (.aload_n 0, 1) := by decide +kernel
theorem dX8_told_57 : decode cX8_told 57 = .ok (.getfield 10, 3) := by decide +kernel
theorem dX8_told_60 : decode cX8_told 60 = .ok (.getfield 76, 3) := by decide +kernel
theorem dX8_told_63 : decode cX8_told 63 = .ok (.ireturn, 1) := by decide +kernel
theorem dX8_told_64 : decode cX8_told 64 = .ok (.aload_n 0, 1) := by decide +kernel
theorem dX8_told_65 : decode cX8_told 65 = .ok (.getfield 10, 3) := by decide +kernel
theorem dX8_told_68 : decode cX8_told 68 = .ok (.getfield 95, 3) := by decide +kernel
theorem dX8_told_71 : decode cX8_told 71 = .ok (.getfield 134, 3) := by decide +kernel
theorem dX8_told_74 : decode cX8_told 74 = .ok (.ireturn, 1) := by decide +kernel
theorem dX8_told_75 : decode cX8_told 75 = .ok (.aload_n 0, 1) := by decide +kernel
theorem dX8_told_76 : decode cX8_told 76 = .ok (.getfield 10, 3) := by decide +kernel
theorem dX8_told_79 : decode cX8_told 79 = .ok (.getfield 95, 3) := by decide +kernel
theorem dX8_told_82 : decode cX8_told 82 = .ok (.getfield 99, 3) := by decide +kernel
theorem dX8_told_85 : decode cX8_told 85 = .ok (.ireturn, 1) := by decide +kernel
theorem dX8_told_86 : decode cX8_told 86 = .ok (.aload_n 0, 1) := by decide +kernel
theorem dX8_told_87 : decode cX8_told 87 = .ok (.getfield 10, 3) := by decide +kernel
theorem dX8_told_90 : decode cX8_told 90 = .ok (.getfield 166, 3) := by decide +kernel
theorem dX8_told_93 : decode cX8_told 93 = .ok (.ireturn, 1) := by decide +kernel
theorem dX8_told_94 : decode cX8_told 94 = .ok (.iload_n 1, 1) := by decide +kernel
theorem dX8_told_95 : decode cX8_told 95 = .ok (.bipush 10, 2) := by decide +kernel
theorem dX8_told_97 : decode cX8_told 97 = .ok (.bipush 15, 2) := by decide +kernel
theorem dX8_told_99 : decode cX8_told 99 = .ok (.invokestatic 64, 3) := by decide +kernel
theorem dX8_told_102 : decode cX8_told 102 = .ok (.ifCond .ne 6, 3) := by decide +kernel
theorem dX8_told_105 : decode cX8_told 105 = .ok (.bipush (-2), 2) := by decide +kernel
theorem dX8_told_107 : decode cX8_told 107 = .ok (.ireturn, 1) := by decide +kernel
theorem dX8_told_108 : decode cX8_told 108 = .ok (.aload_n 0, 1) := by decide +kernel
theorem dX8_told_109 : decode cX8_told 109 = .ok (.getfield 10, 3) := by decide +kernel
theorem dX8_told_112 : decode cX8_told 112 = .ok (.iload_n 1, 1) := by decide +kernel
theorem dX8_told_113 : decode cX8_told 113 = .ok (.bipush 10, 2) := by decide +kernel
theorem dX8_told_115 : decode cX8_told 115 = .ok (.isub, 1) := by decide +kernel
theorem dX8_told_116 : decode cX8_told 116 = .ok (.invokevirtual 83, 3) := by decide +kernel
theorem dX8_told_119 : decode cX8_told 119 = .ok (.ireturn, 1) := by decide +kernel
theorem dX8_playPad_0 : decode cX8_playPad 0 = .ok (.aload_n 0, 1) := by decide +kernel
theorem dX8_playPad_1 : decode cX8_playPad 1 = .ok (.getfield 32, 3) := by decide +kernel
theorem dX8_playPad_4 : decode cX8_playPad 4 = .ok (.aload_n 0, 1) := by decide +kernel
theorem dX8_playPad_5 : decode cX8_playPad 5 = .ok (.getfield 25, 3) := by decide +kernel
theorem dX8_playPad_8 : decode cX8_playPad 8 = .ok (.aload_n 0, 1) := by decide +kernel
theorem dX8_playPad_9 : decode cX8_playPad 9 = .ok (.getfield 10, 3) := by decide +kernel
theorem dX8_playPad_12 : decode cX8_playPad 12 = .ok (.getfield 68, 3) := by decide +kernel
theorem dX8_playPad_15 : decode cX8_playPad 15 = .ok (.invokevirtual 110, 3) := by decide +kernel
theorem dX8_playPad_18 : decode cX8_playPad 18 = .ok (.bipush (-6), 2) := by decide +kernel
theorem dX8_playPad_20 : decode cX8_playPad 20 = .ok (.if_icmp .eq 6, 3) := by decide +kernel
theorem dX8_playPad_23 : decode cX8_playPad 23 = .ok (.bipush (-5), 2) := by decide +kernel
theorem dX8_playPad_25 : decode cX8_playPad 25 = .ok (.ireturn, 1) := by decide +kernel
theorem dX8_playPad_26 : decode cX8_playPad 26 = .ok (.aload_n 0, 1) := by decide +kernel
theorem dX8_playPad_27 : decode cX8_playPad 27 = .ok (.getfield 32, 3) := by decide +kernel
theorem dX8_playPad_30 : decode cX8_playPad 30 = .ok (.aload_n 0, 1) := by decide +kernel
theorem dX8_playPad_31 : decode cX8_playPad 31 = .ok (.getfield 10, 3) := by decide +kernel
theorem dX8_playPad_34 : decode cX8_playPad 34 = .ok (.aload_n 0, 1) := by decide +kernel
theorem dX8_playPad_35 : decode cX8_playPad 35 = .ok (.getfield 10, 3) := by decide +kernel
theorem dX8_playPad_38 : decode cX8_playPad 38 = .ok (.getfield 76, 3) := by decide +kernel
theorem dX8_playPad_41 : decode cX8_playPad 41 = .ok (.invokevirtual 255, 3) := by decide +kernel
theorem dX8_playPad_44 : decode cX8_playPad 44 = .ok (.aload_n 0, 1) := by decide +kernel
theorem dX8_playPad_45 : decode cX8_playPad 45 = .ok (.getfield 32, 3) := by decide +kernel
theorem dX8_playPad_48 : decode cX8_playPad 48 = .ok (.getfield 121, 3) := by decide +kernel
theorem dX8_playPad_51 : decode cX8_playPad 51 = .ok (.bipush (-6), 2) := by decide +kernel
theorem dX8_playPad_53 : decode cX8_playPad 53 = .ok (.if_icmp .ne 7, 3) := by decide +kernel
theorem dX8_playPad_56 : decode cX8_playPad 56 = .ok (.iconst 0, 1) := by decide +kernel
theorem dX8_playPad_57 : decode cX8_playPad 57 = .ok (.goto 5, 3) := by decide +kernel
theorem dX8_playPad_60 : decode cX8_playPad 60 = .ok (.bipush (-3), 2) := by decide +kernel
theorem dX8_playPad_62 : decode cX8_playPad 62 = .ok (.ireturn, 1) := by decide +kernel
theorem dX8_readPattern_0 : decode cX8_readPattern 0 = .ok (.aload_n 0, 1) := by decide +kernel
theorem dX8_readPattern_1 : decode cX8_readPattern 1 = .ok (.getfield 39, 3) := by decide +kernel
theorem dX8_readPattern_4 : decode cX8_readPattern 4 = .ok (.aload_n 0, 1) := by decide +kernel
theorem dX8_readPattern_5 : decode cX8_readPattern 5 = .ok (.getfield 25, 3) := by decide +kernel
theorem dX8_readPattern_8 : decode cX8_readPattern 8 = .ok (.invokevirtual 114, 3) := by decide +kernel
theorem dX8_readPattern_11 : decode cX8_readPattern 11 = .ok (.bipush (-6), 2) := by decide +kernel
theorem dX8_readPattern_13 : decode cX8_readPattern 13 = .ok (.if_icmp .eq 6, 3) := by decide +kernel
theorem dX8_readPattern_16 : decode cX8_readPattern 16 = .ok (.bipush (-5), 2) := by decide +kernel
theorem dX8_readPattern_18 : decode cX8_readPattern 18 = .ok (.ireturn, 1) := by decide +kernel
theorem dX8_readPattern_19 : decode cX8_readPattern 19 = .ok (.aload_n 0, 1) := by decide +kernel
theorem dX8_readPattern_20 : decode cX8_readPattern 20 = .ok (.getfield 39, 3) := by decide +kernel
theorem dX8_readPattern_23 : decode cX8_readPattern 23 = .ok (.getfield 159, 3) := by decide +kernel
theorem dX8_readPattern_26 : decode cX8_readPattern 26 = .ok (.bipush 30, 2) := by decide +kernel
theorem dX8_readPattern_28 : decode cX8_readPattern 28 = .ok (.if_icmp .le 8, 3) := by decide +kernel
theorem dX8_readPattern_31 : decode cX8_readPattern 31 = .ok (.bipush (-4), 2) := by decide +kernel
theorem dX8_readPattern_33 : decode cX8_readPattern 33 = .ok (.goto 4, 3) := by decide +kernel
theorem dX8_readPattern_36 : decode cX8_readPattern 36 = .ok (.iconst 0, 1) := by decide +kernel
theorem dX8_readPattern_37 : decode cX8_readPattern 37 = .ok (.ireturn, 1) := by decide +kernel
theorem dX8_imageAt_0 : decode cX8_imageAt 0 = .ok (.iload_n 1, 1) := by decide +kernel
theorem dX8_imageAt_1 : decode cX8_imageAt 1 = .ok (.ifCond .ne 10, 3) := by decide +kernel
theorem dX8_imageAt_4 : decode cX8_imageAt 4 = .ok (.aload_n 0, 1) := by decide +kernel
theorem dX8_imageAt_5 : decode cX8_imageAt 5 = .ok (.getfield 16, 3) := by decide +kernel
theorem dX8_imageAt_8 : decode cX8_imageAt 8 = .ok (.goto 7, 3) := by decide +kernel
theorem dX8_imageAt_11 : decode cX8_imageAt 11 = .ok (.aload_n 0, 1) := by decide +kernel
theorem dX8_imageAt_12 : decode cX8_imageAt 12 = .ok (.getfield 19, 3) := by decide +kernel
theorem dX8_imageAt_15 : decode cX8_imageAt 15 = .ok (.areturn, 1) := by decide +kernel
theorem dX8_surveyWorlds_0 : decode cX8_surveyWorlds 0 = .ok (.aload_n 0, 1) := by decide +kernel
theorem dX8_surveyWorlds_1 : decode cX8_surveyWorlds 1 = .ok (.getfield 32, 3) := by decide +kernel
theorem dX8_surveyWorlds_4 : decode cX8_surveyWorlds 4 = .ok (.aload_n 0, 1) := by decide +kernel
theorem dX8_surveyWorlds_5 : decode cX8_surveyWorlds 5 = .ok (.getfield 25, 3) := by decide +kernel
theorem dX8_surveyWorlds_8 : decode cX8_surveyWorlds 8 = .ok (.aload_n 0, 1) := by decide +kernel
theorem dX8_surveyWorlds_9 : decode cX8_surveyWorlds 9 = .ok (.getfield 10, 3) := by decide +kernel
theorem dX8_surveyWorlds_12 : decode cX8_surveyWorlds 12 = .ok (.getfield 68, 3) := by decide +kernel
theorem dX8_surveyWorlds_15 : decode cX8_surveyWorlds 15 = .ok (.invokevirtual 110, 3) := by decide +kernel
theorem dX8_surveyWorlds_18 : decode cX8_surveyWorlds 18 = .ok (.bipush (-6), 2) := by decide +kernel
theorem dX8_surveyWorlds_20 : decode cX8_surveyWorlds 20 = .ok (.if_icmp .eq 5, 3) := by decide +kernel
theorem dX8_surveyWorlds_23 : decode cX8_surveyWorlds 23 = .ok (.iconst 0, 1) := by decide +kernel
theorem dX8_surveyWorlds_24 : decode cX8_surveyWorlds 24 = .ok (.ireturn, 1) := by decide +kernel
theorem dX8_surveyWorlds_25 : decode cX8_surveyWorlds 25 = .ok (.aload_n 0, 1) := by decide +kernel
theorem dX8_surveyWorlds_26 : decode cX8_surveyWorlds 26 = .ok (.getfield 46, 3) := by decide +kernel
theorem dX8_surveyWorlds_29 : decode cX8_surveyWorlds 29 = .ok (.invokevirtual 258, 3) := by decide +kernel
theorem dX8_surveyWorlds_32 : decode cX8_surveyWorlds 32 = .ok (.iconst 1, 1) := by decide +kernel
theorem dX8_surveyWorlds_33 : decode cX8_surveyWorlds 33 = .ok (.aload_n 0, 1) := by decide +kernel
theorem dX8_surveyWorlds_34 : decode cX8_surveyWorlds 34 = .ok (.getfield 10, 3) := by decide +kernel
theorem dX8_surveyWorlds_37 : decode cX8_surveyWorlds 37 = .ok (.getfield 68, 3) := by decide +kernel
theorem dX8_surveyWorlds_40 : decode cX8_surveyWorlds 40 = .ok (.ishl, 1) := by decide +kernel
theorem dX8_surveyWorlds_41 : decode cX8_surveyWorlds 41 = .ok (.istore_n 1, 1) := by decide +kernel
theorem dX8_surveyWorlds_42 : decode cX8_surveyWorlds 42 = .ok (.iconst 0, 1) := by decide +kernel
theorem dX8_surveyWorlds_43 : decode cX8_surveyWorlds 43 = .ok (.istore_n 2, 1) := by decide +kernel
theorem dX8_surveyWorlds_44 : decode cX8_surveyWorlds 44 = .ok (.iload_n 2, 1) := by decide +kernel
theorem dX8_surveyWorlds_45 : decode cX8_surveyWorlds 45 = .ok (.iload_n 1, 1) := by decide +kernel
theorem dX8_surveyWorlds_46 : decode cX8_surveyWorlds 46 = .ok (.if_icmp .ge 55, 3) := by decide +kernel
theorem dX8_surveyWorlds_49 : decode cX8_surveyWorlds 49 = .ok (.aload_n 0, 1) := by decide +kernel
theorem dX8_surveyWorlds_50 : decode cX8_surveyWorlds 50 = .ok (.getfield 32, 3) := by decide +kernel
theorem dX8_surveyWorlds_53 : decode cX8_surveyWorlds 53 = .ok (.aload_n 0, 1) := by decide +kernel
theorem dX8_surveyWorlds_54 : decode cX8_surveyWorlds 54 = .ok (.getfield 10, 3) := by decide +kernel
theorem dX8_surveyWorlds_57 : decode cX8_surveyWorlds 57 = .ok (.iload_n 2, 1) := by decide +kernel
theorem dX8_surveyWorlds_58 : decode cX8_surveyWorlds 58 = .ok (.invokevirtual 255, 3) := by decide +kernel
theorem dX8_surveyWorlds_61 : decode cX8_surveyWorlds 61 = .ok (.aload_n 0, 1) := by decide +kernel
theorem dX8_surveyWorlds_62 : decode cX8_surveyWorlds 62 = .ok (.getfield 32, 3) := by decide +kernel
theorem dX8_surveyWorlds_65 : decode cX8_surveyWorlds 65 = .ok (.getfield 121, 3) := by decide +kernel
theorem dX8_surveyWorlds_68 : decode cX8_surveyWorlds 68 = .ok (.bipush (-6), 2) := by decide +kernel
theorem dX8_surveyWorlds_70 : decode cX8_surveyWorlds 70 = .ok (.if_icmp .ne 25, 3) := by decide +kernel
theorem dX8_surveyWorlds_73 : decode cX8_surveyWorlds 73 = .ok (.aload_n 0, 1) := by decide +kernel
theorem dX8_surveyWorlds_74 : decode cX8_surveyWorlds 74 = .ok (.getfield 10, 3) := by decide +kernel
theorem dX8_surveyWorlds_77 : decode cX8_surveyWorlds 77 = .ok (.aload_n 0, 1) := by decide +kernel
theorem dX8_surveyWorlds_78 : decode cX8_surveyWorlds 78 = .ok (.getfield 32, 3) := by decide +kernel
theorem dX8_surveyWorlds_81 : decode cX8_surveyWorlds 81 = .ok (.invokevirtual 261, 3) := by decide +kernel
theorem dX8_surveyWorlds_84 : decode cX8_surveyWorlds 84 = .ok (.ifCond .eq 11, 3) := by decide +kernel
theorem dX8_surveyWorlds_87 : decode cX8_surveyWorlds 87 = .ok (.aload_n 0, 1) := by decide +kernel
theorem dX8_surveyWorlds_88 : decode cX8_surveyWorlds 88 = .ok (.getfield 46, 3) := by decide +kernel
theorem dX8_surveyWorlds_91 : decode cX8_surveyWorlds 91 = .ok (.iload_n 2, 1) := by decide +kernel
theorem dX8_surveyWorlds_92 : decode cX8_surveyWorlds 92 = .ok (.invokevirtual 265, 3) := by decide +kernel
theorem dX8_surveyWorlds_95 : decode cX8_surveyWorlds 95 = .ok (.iinc 2 1, 3) := by decide +kernel
theorem dX8_surveyWorlds_98 : decode cX8_surveyWorlds 98 = .ok (.goto (-54), 3) := by decide +kernel
theorem dX8_surveyWorlds_101 : decode cX8_surveyWorlds 101 = .ok (.iconst 1, 1) := by decide +kernel
theorem dX8_surveyWorlds_102 : decode cX8_surveyWorlds 102 = .ok (.ireturn, 1) := by decide +kernel
theorem dX8_fewestRemarks_0 : decode cX8_fewestRemarks 0 = .ok (.bipush (-6), 2) := by decide +kernel
theorem dX8_fewestRemarks_2 : decode cX8_fewestRemarks 2 = .ok (.istore_n 2, 1) := by decide +kernel
theorem dX8_fewestRemarks_3 : decode cX8_fewestRemarks 3 = .ok (.iconst 0, 1) := by decide +kernel
theorem dX8_fewestRemarks_4 : decode cX8_fewestRemarks 4 = .ok (.istore_n 3, 1) := by decide +kernel
theorem dX8_fewestRemarks_5 : decode cX8_fewestRemarks 5 = .ok (.iload_n 3, 1) := by decide +kernel
theorem dX8_fewestRemarks_6 : decode cX8_fewestRemarks 6 = .ok (.iload_n 1, 1) := by decide +kernel
theorem dX8_fewestRemarks_7 : decode cX8_fewestRemarks 7 = .ok (.if_icmp .gt 90, 3) := by decide +kernel
theorem dX8_fewestRemarks_10 : decode cX8_fewestRemarks 10 = .ok (.iload_n 3, 1) := by decide +kernel
theorem dX8_fewestRemarks_11 : decode cX8_fewestRemarks 11 = .ok (.aload_n 0, 1) := by decide +kernel
theorem dX8_fewestRemarks_12 : decode cX8_fewestRemarks 12 = .ok (.getfield 10, 3) := by decide +kernel
theorem dX8_fewestRemarks_15 : decode cX8_fewestRemarks 15 = .ok (.getfield 95, 3) := by decide +kernel
theorem dX8_fewestRemarks_18 : decode cX8_fewestRemarks 18 = .ok (.getfield 134, 3) := by decide +kernel
theorem dX8_fewestRemarks_21 : decode cX8_fewestRemarks 21 = .ok (.if_icmp .gt 76, 3) := by decide +kernel
theorem dX8_fewestRemarks_24 : decode cX8_fewestRemarks 24 = .ok (.iload_n 3, 1) := by decide +kernel
theorem dX8_fewestRemarks_25 : decode cX8_fewestRemarks 25 = .ok (.ifCond .le 16, 3) := by decide +kernel
theorem dX8_fewestRemarks_28 : decode cX8_fewestRemarks 28 = .ok (.aload_n 0, 1) := by decide +kernel
theorem dX8_fewestRemarks_29 : decode cX8_fewestRemarks 29 = .ok (.iload_n 3, 1) := by decide +kernel
theorem dX8_fewestRemarks_30 : decode cX8_fewestRemarks 30 = .ok (.iconst 1, 1) := by decide +kernel
theorem dX8_fewestRemarks_31 : decode cX8_fewestRemarks 31 = .ok (.isub, 1) := by decide +kernel
theorem dX8_fewestRemarks_32 : decode cX8_fewestRemarks 32 = .ok (.invokevirtual 267, 3) := by decide +kernel
theorem dX8_fewestRemarks_35 : decode cX8_fewestRemarks 35 = .ok (.ifCond .ne 6, 3) := by decide +kernel
theorem dX8_fewestRemarks_38 : decode cX8_fewestRemarks 38 = .ok (.goto 59, 3) := by decide +kernel
theorem dX8_fewestRemarks_41 : decode cX8_fewestRemarks 41 = .ok (.aload_n 0, 1) := by decide +kernel
theorem dX8_fewestRemarks_42 : decode cX8_fewestRemarks 42 = .ok (.iload_n 3, 1) := by decide +kernel
theorem dX8_fewestRemarks_43 : decode cX8_fewestRemarks 43 = .ok (.invokevirtual 270, 3) := by decide +kernel
theorem dX8_fewestRemarks_46 : decode cX8_fewestRemarks 46 = .ok (.istore 4, 2) := by decide +kernel
theorem dX8_fewestRemarks_48 : decode cX8_fewestRemarks 48 = .ok (.aload_n 0, 1) := by decide +kernel
theorem dX8_fewestRemarks_49 : decode cX8_fewestRemarks 49 = .ok (.iload_n 1, 1) := by decide +kernel
theorem dX8_fewestRemarks_50 : decode cX8_fewestRemarks 50 = .ok (.iload_n 3, 1) := by decide +kernel
theorem dX8_fewestRemarks_51 : decode cX8_fewestRemarks 51 = .ok (.invokevirtual 273, 3) := by decide +kernel
theorem dX8_fewestRemarks_54 : decode cX8_fewestRemarks 54 = .ok (.istore 5, 2) := by decide +kernel
theorem dX8_fewestRemarks_56 : decode cX8_fewestRemarks 56 = .ok (.iload 4, 2) := by decide +kernel
theorem dX8_fewestRemarks_58 : decode cX8_fewestRemarks 58 = .ok (.bipush (-6), 2) := by decide +kernel
theorem dX8_fewestRemarks_60 : decode cX8_fewestRemarks 60 = .ok (.if_icmp .eq 31, 3) := by decide +kernel
theorem dX8_fewestRemarks_63 : decode cX8_fewestRemarks 63 = .ok (.iload 5, 2) := by decide +kernel
theorem dX8_fewestRemarks_65 : decode cX8_fewestRemarks 65 = .ok (.bipush (-6), 2) := by decide +kernel
theorem dX8_fewestRemarks_67 : decode cX8_fewestRemarks 67 = .ok (.if_icmp .eq 24, 3) := by decide +kernel
theorem dX8_fewestRemarks_70 : decode cX8_fewestRemarks 70 = .ok (.iload_n 2, 1) := by decide +kernel
theorem dX8_fewestRemarks_71 : decode cX8_fewestRemarks 71 = .ok (.bipush (-6), 2) := by decide +kernel
theorem dX8_fewestRemarks_73 : decode cX8_fewestRemarks 73 = .ok (.if_icmp .eq 12, 3) := by decide +kernel
theorem dX8_fewestRemarks_76 : decode cX8_fewestRemarks 76 = .ok (.iload 4, 2) := by decide +kernel
theorem dX8_fewestRemarks_78 : decode cX8_fewestRemarks 78 = .ok (.iload 5, 2) := by decide +kernel
theorem dX8_fewestRemarks_80 : decode cX8_fewestRemarks 80 = .ok (.iadd, 1) := by decide +kernel
theorem dX8_fewestRemarks_81 : decode cX8_fewestRemarks 81 = .ok (.iload_n 2, 1) := by decide +kernel
theorem dX8_fewestRemarks_82 : decode cX8_fewestRemarks 82 = .ok (.if_icmp .ge 9, 3) := by decide +kernel
theorem dX8_fewestRemarks_85 : decode cX8_fewestRemarks 85 = .ok (.iload 4, 2) := by decide +kernel
theorem dX8_fewestRemarks_87 : decode cX8_fewestRemarks 87 = .ok (.iload 5, 2) := by decide +kernel
theorem dX8_fewestRemarks_89 : decode cX8_fewestRemarks 89 = .ok (.iadd, 1) := by decide +kernel
theorem dX8_fewestRemarks_90 : decode cX8_fewestRemarks 90 = .ok (.istore_n 2, 1) := by decide +kernel
theorem dX8_fewestRemarks_91 : decode cX8_fewestRemarks 91 = .ok (.iinc 3 1, 3) := by decide +kernel
theorem dX8_fewestRemarks_94 : decode cX8_fewestRemarks 94 = .ok (.goto (-89), 3) := by decide +kernel
theorem dX8_fewestRemarks_97 : decode cX8_fewestRemarks 97 = .ok (.iload_n 2, 1) := by decide +kernel
theorem dX8_fewestRemarks_98 : decode cX8_fewestRemarks 98 = .ok (.ireturn, 1) := by decide +kernel
theorem dX8_isThereAlready_0 : decode cX8_isThereAlready 0 = .ok (.aload_n 0, 1) := by decide +kernel
theorem dX8_isThereAlready_1 : decode cX8_isThereAlready 1 = .ok (.getfield 10, 3) := by decide +kernel
theorem dX8_isThereAlready_4 : decode cX8_isThereAlready 4 = .ok (.getfield 95, 3) := by decide +kernel
theorem dX8_isThereAlready_7 : decode cX8_isThereAlready 7 = .ok (.iload_n 1, 1) := by decide +kernel
theorem dX8_isThereAlready_8 : decode cX8_isThereAlready 8 = .ok (.invokevirtual 276, 3) := by decide +kernel
theorem dX8_isThereAlready_11 : decode cX8_isThereAlready 11 = .ok (.aload_n 0, 1) := by decide +kernel
theorem dX8_isThereAlready_12 : decode cX8_isThereAlready 12 = .ok (.getfield 39, 3) := by decide +kernel
theorem dX8_isThereAlready_15 : decode cX8_isThereAlready 15 = .ok (.getfield 279, 3) := by decide +kernel
theorem dX8_isThereAlready_18 : decode cX8_isThereAlready 18 = .ok (.iload_n 1, 1) := by decide +kernel
theorem dX8_isThereAlready_19 : decode cX8_isThereAlready 19 = .ok (.invokestatic 282, 3) := by decide +kernel
theorem dX8_isThereAlready_22 : decode cX8_isThereAlready 22 = .ok (.if_icmp .ne 32, 3) := by decide +kernel
theorem dX8_isThereAlready_25 : decode cX8_isThereAlready 25 = .ok (.aload_n 0, 1) := by decide +kernel
theorem dX8_isThereAlready_26 : decode cX8_isThereAlready 26 = .ok (.getfield 10, 3) := by decide +kernel
theorem dX8_isThereAlready_29 : decode cX8_isThereAlready 29 = .ok (.getfield 95, 3) := by decide +kernel
theorem dX8_isThereAlready_32 : decode cX8_isThereAlready 32 = .ok (.iload_n 1, 1) := by decide +kernel
theorem dX8_isThereAlready_33 : decode cX8_isThereAlready 33 = .ok (.invokevirtual 286, 3) := by decide +kernel
theorem dX8_isThereAlready_36 : decode cX8_isThereAlready 36 = .ok (.aload_n 0, 1) := by decide +kernel
theorem dX8_isThereAlready_37 : decode cX8_isThereAlready 37 = .ok (.getfield 39, 3) := by decide +kernel
theorem dX8_isThereAlready_40 : decode cX8_isThereAlready 40 = .ok (.getfield 289, 3) := by decide +kernel
theorem dX8_isThereAlready_43 : decode cX8_isThereAlready 43 = .ok (.iload_n 1, 1) := by decide +kernel
theorem dX8_isThereAlready_44 : decode cX8_isThereAlready 44 = .ok (.invokestatic 282, 3) := by decide +kernel
theorem dX8_isThereAlready_47 : decode cX8_isThereAlready 47 = .ok (.if_icmp .ne 7, 3) := by decide +kernel
theorem dX8_isThereAlready_50 : decode cX8_isThereAlready 50 = .ok (.iconst 1, 1) := by decide +kernel
theorem dX8_isThereAlready_51 : decode cX8_isThereAlready 51 = .ok (.goto 4, 3) := by decide +kernel
theorem dX8_isThereAlready_54 : decode cX8_isThereAlready 54 = .ok (.iconst 0, 1) := by decide +kernel
theorem dX8_isThereAlready_55 : decode cX8_isThereAlready 55 = .ok (.ireturn, 1) := by decide +kernel
theorem dX8_remarksDownTo_0 : decode cX8_remarksDownTo 0 = .ok (.iload_n 1, 1) := by decide +kernel
theorem dX8_remarksDownTo_1 : decode cX8_remarksDownTo 1 = .ok (.ifCond .le 7, 3) := by decide +kernel
theorem dX8_remarksDownTo_4 : decode cX8_remarksDownTo 4 = .ok (.iconst 1, 1) := by decide +kernel
theorem dX8_remarksDownTo_5 : decode cX8_remarksDownTo 5 = .ok (.goto 4, 3) := by decide +kernel
theorem dX8_remarksDownTo_8 : decode cX8_remarksDownTo 8 = .ok (.iconst 0, 1) := by decide +kernel
theorem dX8_remarksDownTo_9 : decode cX8_remarksDownTo 9 = .ok (.istore_n 2, 1) := by decide +kernel
theorem dX8_remarksDownTo_10 : decode cX8_remarksDownTo 10 = .ok (.iconst 0, 1) := by decide +kernel
theorem dX8_remarksDownTo_11 : decode cX8_remarksDownTo 11 = .ok (.istore_n 3, 1) := by decide +kernel
theorem dX8_remarksDownTo_12 : decode cX8_remarksDownTo 12 = .ok (.iconst 0, 1) := by decide +kernel
theorem dX8_remarksDownTo_13 : decode cX8_remarksDownTo 13 = .ok (.istore 4, 2) := by decide +kernel
theorem dX8_remarksDownTo_15 : decode cX8_remarksDownTo 15 = .ok (.iload_n 1, 1) := by decide +kernel
theorem dX8_remarksDownTo_16 : decode cX8_remarksDownTo 16 = .ok (.istore 5, 2) := by decide +kernel
theorem dX8_remarksDownTo_18 : decode cX8_remarksDownTo 18 = .ok (.iload 5, 2) := by decide +kernel
theorem dX8_remarksDownTo_20 : decode cX8_remarksDownTo 20 = .ok (.aload_n 0, 1) := by decide +kernel
theorem dX8_remarksDownTo_21 : decode cX8_remarksDownTo 21 = .ok (.getfield 10, 3) := by decide +kernel
theorem dX8_remarksDownTo_24 : decode cX8_remarksDownTo 24 = .ok (.getfield 95, 3) := by decide +kernel
theorem dX8_remarksDownTo_27 : decode cX8_remarksDownTo 27 = .ok (.getfield 134, 3) := by decide +kernel
theorem dX8_remarksDownTo_30 : decode cX8_remarksDownTo 30 = .ok (.if_icmp .ge 58, 3) := by decide +kernel
theorem dX8_remarksDownTo_33 : decode cX8_remarksDownTo 33 = .ok (.iload 5, 2) := by decide +kernel
theorem dX8_remarksDownTo_35 : decode cX8_remarksDownTo 35 = .ok (.ifCond .eq 32, 3) := by decide +kernel
theorem dX8_remarksDownTo_38 : decode cX8_remarksDownTo 38 = .ok (.aload_n 0, 1) := by decide +kernel
theorem dX8_remarksDownTo_39 : decode cX8_remarksDownTo 39 = .ok (.getfield 10, 3) := by decide +kernel
theorem dX8_remarksDownTo_42 : decode cX8_remarksDownTo 42 = .ok (.getfield 95, 3) := by decide +kernel
theorem dX8_remarksDownTo_45 : decode cX8_remarksDownTo 45 = .ok (.iload 5, 2) := by decide +kernel
theorem dX8_remarksDownTo_47 : decode cX8_remarksDownTo 47 = .ok (.invokevirtual 276, 3) := by decide +kernel
theorem dX8_remarksDownTo_50 : decode cX8_remarksDownTo 50 = .ok (.aload_n 0, 1) := by decide +kernel
theorem dX8_remarksDownTo_51 : decode cX8_remarksDownTo 51 = .ok (.getfield 10, 3) := by decide +kernel
theorem dX8_remarksDownTo_54 : decode cX8_remarksDownTo 54 = .ok (.getfield 95, 3) := by decide +kernel
theorem dX8_remarksDownTo_57 : decode cX8_remarksDownTo 57 = .ok (.iload 5, 2) := by decide +kernel
theorem dX8_remarksDownTo_59 : decode cX8_remarksDownTo 59 = .ok (.iconst 1, 1) := by decide +kernel
theorem dX8_remarksDownTo_60 : decode cX8_remarksDownTo 60 = .ok (.isub, 1) := by decide +kernel
theorem dX8_remarksDownTo_61 : decode cX8_remarksDownTo 61 = .ok (.invokevirtual 276, 3) := by decide +kernel
theorem dX8_remarksDownTo_64 : decode cX8_remarksDownTo 64 = .ok (.if_icmp .eq 11, 3) := by decide +kernel
theorem dX8_remarksDownTo_67 : decode cX8_remarksDownTo 67 = .ok (.iconst 0, 1) := by decide +kernel
theorem dX8_remarksDownTo_68 : decode cX8_remarksDownTo 68 = .ok (.istore_n 2, 1) := by decide +kernel
theorem dX8_remarksDownTo_69 : decode cX8_remarksDownTo 69 = .ok (.iinc 4 1, 3) := by decide +kernel
theorem dX8_remarksDownTo_72 : decode cX8_remarksDownTo 72 = .ok (.goto 10, 3) := by decide +kernel
theorem dX8_remarksDownTo_75 : decode cX8_remarksDownTo 75 = .ok (.iload_n 2, 1) := by decide +kernel
theorem dX8_remarksDownTo_76 : decode cX8_remarksDownTo 76 = .ok (.ifCond .eq 6, 3) := by decide +kernel
theorem dX8_remarksDownTo_79 : decode cX8_remarksDownTo 79 = .ok (.iinc 3 1, 3) := by decide +kernel
theorem dX8_remarksDownTo_82 : decode cX8_remarksDownTo 82 = .ok (.iinc 5 1, 3) := by decide +kernel
theorem dX8_remarksDownTo_85 : decode cX8_remarksDownTo 85 = .ok (.goto (-67), 3) := by decide +kernel
theorem dX8_remarksDownTo_88 : decode cX8_remarksDownTo 88 = .ok (.iload_n 3, 1) := by decide +kernel
theorem dX8_remarksDownTo_89 : decode cX8_remarksDownTo 89 = .ok (.ifCond .le 17, 3) := by decide +kernel
theorem dX8_remarksDownTo_92 : decode cX8_remarksDownTo 92 = .ok (.aload_n 0, 1) := by decide +kernel
theorem dX8_remarksDownTo_93 : decode cX8_remarksDownTo 93 = .ok (.getfield 10, 3) := by decide +kernel
theorem dX8_remarksDownTo_96 : decode cX8_remarksDownTo 96 = .ok (.iconst 2, 1) := by decide +kernel
theorem dX8_remarksDownTo_97 : decode cX8_remarksDownTo 97 = .ok (.invokevirtual 229, 3) := by decide +kernel
theorem dX8_remarksDownTo_100 : decode cX8_remarksDownTo 100 = .ok (.ifCond .ne 6, 3) := by decide +kernel
theorem dX8_remarksDownTo_103 : decode cX8_remarksDownTo 103 = .ok (.bipush (-6), 2) := by decide +kernel
theorem dX8_remarksDownTo_105 : decode cX8_remarksDownTo 105 = .ok (.ireturn, 1) := by decide +kernel
theorem dX8_remarksDownTo_106 : decode cX8_remarksDownTo 106 = .ok (.iload_n 3, 1) := by decide +kernel
theorem dX8_remarksDownTo_107 : decode cX8_remarksDownTo 107 = .ok (.iload 4, 2) := by decide +kernel
theorem dX8_remarksDownTo_109 : decode cX8_remarksDownTo 109 = .ok (.iadd, 1) := by decide +kernel
theorem dX8_remarksDownTo_110 : decode cX8_remarksDownTo 110 = .ok (.ireturn, 1) := by decide +kernel
theorem dX8_remarksUpTo_0 : decode cX8_remarksUpTo 0 = .ok (.iload_n 2, 1) := by decide +kernel
theorem dX8_remarksUpTo_1 : decode cX8_remarksUpTo 1 = .ok (.iload_n 1, 1) := by decide +kernel
theorem dX8_remarksUpTo_2 : decode cX8_remarksUpTo 2 = .ok (.if_icmp .lt 5, 3) := by decide +kernel
theorem dX8_remarksUpTo_5 : decode cX8_remarksUpTo 5 = .ok (.iconst 0, 1) := by decide +kernel
theorem dX8_remarksUpTo_6 : decode cX8_remarksUpTo 6 = .ok (.ireturn, 1) := by decide +kernel
theorem dX8_remarksUpTo_7 : decode cX8_remarksUpTo 7 = .ok (.aload_n 0, 1) := by decide +kernel
theorem dX8_remarksUpTo_8 : decode cX8_remarksUpTo 8 = .ok (.getfield 10, 3) := by decide +kernel
theorem dX8_remarksUpTo_11 : decode cX8_remarksUpTo 11 = .ok (.getfield 95, 3) := by decide +kernel
theorem dX8_remarksUpTo_14 : decode cX8_remarksUpTo 14 = .ok (.getfield 99, 3) := by decide +kernel
theorem dX8_remarksUpTo_17 : decode cX8_remarksUpTo 17 = .ok (.iconst 1, 1) := by decide +kernel
theorem dX8_remarksUpTo_18 : decode cX8_remarksUpTo 18 = .ok (.if_icmp .ge 6, 3) := by decide +kernel
theorem dX8_remarksUpTo_21 : decode cX8_remarksUpTo 21 = .ok (.bipush (-6), 2) := by decide +kernel
theorem dX8_remarksUpTo_23 : decode cX8_remarksUpTo 23 = .ok (.ireturn, 1) := by decide +kernel
theorem dX8_remarksUpTo_24 : decode cX8_remarksUpTo 24 = .ok (.iconst 0, 1) := by decide +kernel
theorem dX8_remarksUpTo_25 : decode cX8_remarksUpTo 25 = .ok (.istore_n 3, 1) := by decide +kernel
theorem dX8_remarksUpTo_26 : decode cX8_remarksUpTo 26 = .ok (.iload_n 2, 1) := by decide +kernel
theorem dX8_remarksUpTo_27 : decode cX8_remarksUpTo 27 = .ok (.istore 4, 2) := by decide +kernel
theorem dX8_remarksUpTo_29 : decode cX8_remarksUpTo 29 = .ok (.iload 4, 2) := by decide +kernel
theorem dX8_remarksUpTo_31 : decode cX8_remarksUpTo 31 = .ok (.iload_n 1, 1) := by decide +kernel
theorem dX8_remarksUpTo_32 : decode cX8_remarksUpTo 32 = .ok (.if_icmp .ge 126, 3) := by decide +kernel
theorem dX8_remarksUpTo_35 : decode cX8_remarksUpTo 35 = .ok (.aload_n 0, 1) := by decide +kernel
theorem dX8_remarksUpTo_36 : decode cX8_remarksUpTo 36 = .ok (.getfield 39, 3) := by decide +kernel
theorem dX8_remarksUpTo_39 : decode cX8_remarksUpTo 39 = .ok (.getfield 279, 3) := by decide +kernel
theorem dX8_remarksUpTo_42 : decode cX8_remarksUpTo 42 = .ok (.iload 4, 2) := by decide +kernel
theorem dX8_remarksUpTo_44 : decode cX8_remarksUpTo 44 = .ok (.invokestatic 282, 3) := by decide +kernel
theorem dX8_remarksUpTo_47 : decode cX8_remarksUpTo 47 = .ok (.istore 5, 2) := by decide +kernel
theorem dX8_remarksUpTo_49 : decode cX8_remarksUpTo 49 = .ok (.iload 4, 2) := by decide +kernel
theorem dX8_remarksUpTo_51 : decode cX8_remarksUpTo 51 = .ok (.iload_n 2, 1) := by decide +kernel
theorem dX8_remarksUpTo_52 : decode cX8_remarksUpTo 52 = .ok (.if_icmp .le 26, 3) := by decide +kernel
theorem dX8_remarksUpTo_55 : decode cX8_remarksUpTo 55 = .ok (.aload_n 0, 1) := by decide +kernel
theorem dX8_remarksUpTo_56 : decode cX8_remarksUpTo 56 = .ok (.getfield 39, 3) := by decide +kernel
theorem dX8_remarksUpTo_59 : decode cX8_remarksUpTo 59 = .ok (.getfield 279, 3) := by decide +kernel
theorem dX8_remarksUpTo_62 : decode cX8_remarksUpTo 62 = .ok (.iload 4, 2) := by decide +kernel
theorem dX8_remarksUpTo_64 : decode cX8_remarksUpTo 64 = .ok (.iconst 1, 1) := by decide +kernel
theorem dX8_remarksUpTo_65 : decode cX8_remarksUpTo 65 = .ok (.isub, 1) := by decide +kernel
theorem dX8_remarksUpTo_66 : decode cX8_remarksUpTo 66 = .ok (.invokestatic 282, 3) := by decide +kernel
theorem dX8_remarksUpTo_69 : decode cX8_remarksUpTo 69 = .ok (.iload 5, 2) := by decide +kernel
theorem dX8_remarksUpTo_71 : decode cX8_remarksUpTo 71 = .ok (.if_icmp .ne 7, 3) := by decide +kernel
theorem dX8_remarksUpTo_74 : decode cX8_remarksUpTo 74 = .ok (.iconst 1, 1) := by decide +kernel
theorem dX8_remarksUpTo_75 : decode cX8_remarksUpTo 75 = .ok (.goto 4, 3) := by decide +kernel
theorem dX8_remarksUpTo_78 : decode cX8_remarksUpTo 78 = .ok (.iconst 0, 1) := by decide +kernel
theorem dX8_remarksUpTo_79 : decode cX8_remarksUpTo 79 = .ok (.istore 6, 2) := by decide +kernel
theorem dX8_remarksUpTo_81 : decode cX8_remarksUpTo 81 = .ok (.iload 5, 2) := by decide +kernel
theorem dX8_remarksUpTo_83 : decode cX8_remarksUpTo 83 = .ok (.invokestatic 79, 3) := by decide +kernel
theorem dX8_remarksUpTo_86 : decode cX8_remarksUpTo 86 = .ok (.ifCond .eq 19, 3) := by decide +kernel
theorem dX8_remarksUpTo_89 : decode cX8_remarksUpTo 89 = .ok (.aload_n 0, 1) := by decide +kernel
theorem dX8_remarksUpTo_90 : decode cX8_remarksUpTo 90 = .ok (.getfield 10, 3) := by decide +kernel
theorem dX8_remarksUpTo_93 : decode cX8_remarksUpTo 93 = .ok (.iload 5, 2) := by decide +kernel
theorem dX8_remarksUpTo_95 : decode cX8_remarksUpTo 95 = .ok (.invokevirtual 83, 3) := by decide +kernel
theorem dX8_remarksUpTo_98 : decode cX8_remarksUpTo 98 = .ok (.iconst 1, 1) := by decide +kernel
theorem dX8_remarksUpTo_99 : decode cX8_remarksUpTo 99 = .ok (.if_icmp .ne 6, 3) := by decide +kernel
theorem dX8_remarksUpTo_102 : decode cX8_remarksUpTo 102 = .ok (.bipush (-6), 2) := by decide +kernel
theorem dX8_remarksUpTo_104 : decode cX8_remarksUpTo 104 = .ok (.ireturn, 1) := by decide +kernel
theorem dX8_remarksUpTo_105 : decode cX8_remarksUpTo 105 = .ok (.aload_n 0, 1) := by decide +kernel
theorem dX8_remarksUpTo_106 : decode cX8_remarksUpTo 106 = .ok (.getfield 39, 3) := by decide +kernel
theorem dX8_remarksUpTo_109 : decode cX8_remarksUpTo 109 = .ok (.getfield 289, 3) := by decide +kernel
theorem dX8_remarksUpTo_112 : decode cX8_remarksUpTo 112 = .ok (.iload 4, 2) := by decide +kernel
theorem dX8_remarksUpTo_114 : decode cX8_remarksUpTo 114 = .ok (.invokestatic 282, 3) := by decide +kernel
theorem dX8_remarksUpTo_117 : decode cX8_remarksUpTo 117 = .ok (.iconst 1, 1) := by decide +kernel
theorem dX8_remarksUpTo_118 : decode cX8_remarksUpTo 118 = .ok (.if_icmp .ne 11, 3) := by decide +kernel
theorem dX8_remarksUpTo_121 : decode cX8_remarksUpTo 121 = .ok (.iload 6, 2) := by decide +kernel
theorem dX8_remarksUpTo_123 : decode cX8_remarksUpTo 123 = .ok (.ifCond .ne 6, 3) := by decide +kernel
theorem dX8_remarksUpTo_126 : decode cX8_remarksUpTo 126 = .ok (.bipush (-6), 2) := by decide +kernel
theorem dX8_remarksUpTo_128 : decode cX8_remarksUpTo 128 = .ok (.ireturn, 1) := by decide +kernel
theorem dX8_remarksUpTo_129 : decode cX8_remarksUpTo 129 = .ok (.aload_n 0, 1) := by decide +kernel
theorem dX8_remarksUpTo_130 : decode cX8_remarksUpTo 130 = .ok (.getfield 39, 3) := by decide +kernel
theorem dX8_remarksUpTo_133 : decode cX8_remarksUpTo 133 = .ok (.getfield 289, 3) := by decide +kernel
theorem dX8_remarksUpTo_136 : decode cX8_remarksUpTo 136 = .ok (.iload 4, 2) := by decide +kernel
theorem dX8_remarksUpTo_138 : decode cX8_remarksUpTo 138 = .ok (.invokestatic 282, 3) := by decide +kernel
theorem dX8_remarksUpTo_141 : decode cX8_remarksUpTo 141 = .ok (.ifCond .ne 11, 3) := by decide +kernel
theorem dX8_remarksUpTo_144 : decode cX8_remarksUpTo 144 = .ok (.iload 6, 2) := by decide +kernel
theorem dX8_remarksUpTo_146 : decode cX8_remarksUpTo 146 = .ok (.ifCond .eq 6, 3) := by decide +kernel
theorem dX8_remarksUpTo_149 : decode cX8_remarksUpTo 149 = .ok (.iinc 3 1, 3) := by decide +kernel
theorem dX8_remarksUpTo_152 : decode cX8_remarksUpTo 152 = .ok (.iinc 4 1, 3) := by decide +kernel
theorem dX8_remarksUpTo_155 : decode cX8_remarksUpTo 155 = .ok (.goto (-126), 3) := by decide +kernel
theorem dX8_remarksUpTo_158 : decode cX8_remarksUpTo 158 = .ok (.iload_n 3, 1) := by decide +kernel
theorem dX8_remarksUpTo_159 : decode cX8_remarksUpTo 159 = .ok (.aload_n 0, 1) := by decide +kernel
theorem dX8_remarksUpTo_160 : decode cX8_remarksUpTo 160 = .ok (.getfield 10, 3) := by decide +kernel
theorem dX8_remarksUpTo_163 : decode cX8_remarksUpTo 163 = .ok (.getfield 95, 3) := by decide +kernel
theorem dX8_remarksUpTo_166 : decode cX8_remarksUpTo 166 = .ok (.getfield 99, 3) := by decide +kernel
theorem dX8_remarksUpTo_169 : decode cX8_remarksUpTo 169 = .ok (.iconst 1, 1) := by decide +kernel
theorem dX8_remarksUpTo_170 : decode cX8_remarksUpTo 170 = .ok (.isub, 1) := by decide +kernel
theorem dX8_remarksUpTo_171 : decode cX8_remarksUpTo 171 = .ok (.invokestatic 292, 3) := by decide +kernel
theorem dX8_remarksUpTo_174 : decode cX8_remarksUpTo 174 = .ok (.istore 4, 2) := by decide +kernel
theorem dX8_remarksUpTo_176 : decode cX8_remarksUpTo 176 = .ok (.iload_n 1, 1) := by decide +kernel
theorem dX8_remarksUpTo_177 : decode cX8_remarksUpTo 177 = .ok (.iload_n 2, 1) := by decide +kernel
theorem dX8_remarksUpTo_178 : decode cX8_remarksUpTo 178 = .ok (.isub, 1) := by decide +kernel
theorem dX8_remarksUpTo_179 : decode cX8_remarksUpTo 179 = .ok (.iload 4, 2) := by decide +kernel
theorem dX8_remarksUpTo_181 : decode cX8_remarksUpTo 181 = .ok (.iadd, 1) := by decide +kernel
theorem dX8_remarksUpTo_182 : decode cX8_remarksUpTo 182 = .ok (.iconst 2, 1) := by decide +kernel
theorem dX8_remarksUpTo_183 : decode cX8_remarksUpTo 183 = .ok (.iload_n 3, 1) := by decide +kernel
theorem dX8_remarksUpTo_184 : decode cX8_remarksUpTo 184 = .ok (.iload 4, 2) := by decide +kernel
theorem dX8_remarksUpTo_186 : decode cX8_remarksUpTo 186 = .ok (.isub, 1) := by decide +kernel
theorem dX8_remarksUpTo_187 : decode cX8_remarksUpTo 187 = .ok (.imul, 1) := by decide +kernel
theorem dX8_remarksUpTo_188 : decode cX8_remarksUpTo 188 = .ok (.iadd, 1) := by decide +kernel
theorem dX8_remarksUpTo_189 : decode cX8_remarksUpTo 189 = .ok (.ireturn, 1) := by decide +kernel
theorem dX8_spoken_0 : decode cX8_spoken 0 = .ok (.iload_n 0, 1) := by decide +kernel
theorem dX8_spoken_1 : decode cX8_spoken 1 = .ok (.bipush 16, 2) := by decide +kernel
theorem dX8_spoken_3 : decode cX8_spoken 3 = .ok (.imul, 1) := by decide +kernel
theorem dX8_spoken_4 : decode cX8_spoken 4 = .ok (.iload_n 1, 1) := by decide +kernel
theorem dX8_spoken_5 : decode cX8_spoken 5 = .ok (.iconst 2, 1) := by decide +kernel
theorem dX8_spoken_6 : decode cX8_spoken 6 = .ok (.imul, 1) := by decide +kernel
theorem dX8_spoken_7 : decode cX8_spoken 7 = .ok (.iadd, 1) := by decide +kernel
theorem dX8_spoken_8 : decode cX8_spoken 8 = .ok (.iload_n 2, 1) := by decide +kernel
theorem dX8_spoken_9 : decode cX8_spoken 9 = .ok (.ifCond .eq 7, 3) := by decide +kernel
theorem dX8_spoken_12 : decode cX8_spoken 12 = .ok (.iconst 1, 1) := by decide +kernel
theorem dX8_spoken_13 : decode cX8_spoken 13 = .ok (.goto 4, 3) := by decide +kernel
theorem dX8_spoken_16 : decode cX8_spoken 16 = .ok (.iconst 0, 1) := by decide +kernel
theorem dX8_spoken_17 : decode cX8_spoken 17 = .ok (.iadd, 1) := by decide +kernel
theorem dX8_spoken_18 : decode cX8_spoken 18 = .ok (.ireturn, 1) := by decide +kernel
theorem dX8_isSpoken_0 : decode cX8_isSpoken 0 = .ok (.iload_n 0, 1) := by decide +kernel
theorem dX8_isSpoken_1 : decode cX8_isSpoken 1 = .ok (.ifCond .lt 13, 3) := by decide +kernel
theorem dX8_isSpoken_4 : decode cX8_isSpoken 4 = .ok (.iload_n 0, 1) := by decide +kernel
theorem dX8_isSpoken_5 : decode cX8_isSpoken 5 = .ok (.bipush 100, 2) := by decide +kernel
theorem dX8_isSpoken_7 : decode cX8_isSpoken 7 = .ok (.if_icmp .ge 7, 3) := by decide +kernel
theorem dX8_isSpoken_10 : decode cX8_isSpoken 10 = .ok (.iconst 1, 1) := by decide +kernel
theorem dX8_isSpoken_11 : decode cX8_isSpoken 11 = .ok (.goto 4, 3) := by decide +kernel
theorem dX8_isSpoken_14 : decode cX8_isSpoken 14 = .ok (.iconst 0, 1) := by decide +kernel
theorem dX8_isSpoken_15 : decode cX8_isSpoken 15 = .ok (.ireturn, 1) := by decide +kernel
theorem dX8_guestOf_0 : decode cX8_guestOf 0 = .ok (.iload_n 0, 1) := by decide +kernel
theorem dX8_guestOf_1 : decode cX8_guestOf 1 = .ok (.bipush 16, 2) := by decide +kernel
theorem dX8_guestOf_3 : decode cX8_guestOf 3 = .ok (.idiv, 1) := by decide +kernel
theorem dX8_guestOf_4 : decode cX8_guestOf 4 = .ok (.ireturn, 1) := by decide +kernel
theorem dX8_isTrue_0 : decode cX8_isTrue 0 = .ok (.iload_n 0, 1) := by decide +kernel
theorem dX8_isTrue_1 : decode cX8_isTrue 1 = .ok (.iconst 2, 1) := by decide +kernel
theorem dX8_isTrue_2 : decode cX8_isTrue 2 = .ok (.idiv, 1) := by decide +kernel
theorem dX8_isTrue_3 : decode cX8_isTrue 3 = .ok (.bipush 8, 2) := by decide +kernel
theorem dX8_isTrue_5 : decode cX8_isTrue 5 = .ok (.irem, 1) := by decide +kernel
theorem dX8_isTrue_6 : decode cX8_isTrue 6 = .ok (.istore_n 2, 1) := by decide +kernel
theorem dX8_isTrue_7 : decode cX8_isTrue 7 = .ok (.iload_n 1, 1) := by decide +kernel
theorem dX8_isTrue_8 : decode cX8_isTrue 8 = .ok (.iload_n 2, 1) := by decide +kernel
theorem dX8_isTrue_9 : decode cX8_isTrue 9 = .ok (.ishr, 1) := by decide +kernel
theorem dX8_isTrue_10 : decode cX8_isTrue 10 = .ok (.iconst 1, 1) := by decide +kernel
theorem dX8_isTrue_11 : decode cX8_isTrue 11 = .ok (.iand, 1) := by decide +kernel
theorem dX8_isTrue_12 : decode cX8_isTrue 12 = .ok (.iload_n 0, 1) := by decide +kernel
theorem dX8_isTrue_13 : decode cX8_isTrue 13 = .ok (.iconst 2, 1) := by decide +kernel
theorem dX8_isTrue_14 : decode cX8_isTrue 14 = .ok (.irem, 1) := by decide +kernel
theorem dX8_isTrue_15 : decode cX8_isTrue 15 = .ok (.if_icmp .ne 7, 3) := by decide +kernel
theorem dX8_isTrue_18 : decode cX8_isTrue 18 = .ok (.iconst 1, 1) := by decide +kernel
theorem dX8_isTrue_19 : decode cX8_isTrue 19 = .ok (.goto 4, 3) := by decide +kernel
theorem dX8_isTrue_22 : decode cX8_isTrue 22 = .ok (.iconst 0, 1) := by decide +kernel
theorem dX8_isTrue_23 : decode cX8_isTrue 23 = .ok (.ireturn, 1) := by decide +kernel
theorem dX8_drawnRemark_0 : decode cX8_drawnRemark 0 = .ok (.iload_n 0, 1) := by decide +kernel
theorem dX8_drawnRemark_1 : decode cX8_drawnRemark 1 = .ok (.bipush 8, 2) := by decide +kernel
theorem dX8_drawnRemark_3 : decode cX8_drawnRemark 3 = .ok (.irem, 1) := by decide +kernel
theorem dX8_drawnRemark_4 : decode cX8_drawnRemark 4 = .ok (.tableswitch 37 0 2 #[28, 31, 34], 28) := by decide +kernel
theorem dX8_drawnRemark_32 : decode cX8_drawnRemark 32 = .ok (.bipush 100, 2) := by decide +kernel
theorem dX8_drawnRemark_34 : decode cX8_drawnRemark 34 = .ok (.ireturn, 1) := by decide +kernel
theorem dX8_drawnRemark_35 : decode cX8_drawnRemark 35 = .ok (.bipush 101, 2) := by decide +kernel
theorem dX8_drawnRemark_37 : decode cX8_drawnRemark 37 = .ok (.ireturn, 1) := by decide +kernel
theorem dX8_drawnRemark_38 : decode cX8_drawnRemark 38 = .ok (.bipush 102, 2) := by decide +kernel
theorem dX8_drawnRemark_40 : decode cX8_drawnRemark 40 = .ok (.ireturn, 1) := by decide +kernel
theorem dX8_drawnRemark_41 : decode cX8_drawnRemark 41 = .ok (.iload_n 1, 1) := by decide +kernel
theorem dX8_drawnRemark_42 : decode cX8_drawnRemark 42 = .ok (.ifCond .le 12, 3) := by decide +kernel
theorem dX8_drawnRemark_45 : decode cX8_drawnRemark 45 = .ok (.iload_n 0, 1) := by decide +kernel
theorem dX8_drawnRemark_46 : decode cX8_drawnRemark 46 = .ok (.bipush 48, 2) := by decide +kernel
theorem dX8_drawnRemark_48 : decode cX8_drawnRemark 48 = .ok (.idiv, 1) := by decide +kernel
theorem dX8_drawnRemark_49 : decode cX8_drawnRemark 49 = .ok (.iload_n 1, 1) := by decide +kernel
theorem dX8_drawnRemark_50 : decode cX8_drawnRemark 50 = .ok (.irem, 1) := by decide +kernel
theorem dX8_drawnRemark_51 : decode cX8_drawnRemark 51 = .ok (.goto 4, 3) := by decide +kernel
theorem dX8_drawnRemark_54 : decode cX8_drawnRemark 54 = .ok (.iconst 0, 1) := by decide +kernel
theorem dX8_drawnRemark_55 : decode cX8_drawnRemark 55 = .ok (.istore_n 2, 1) := by decide +kernel
theorem dX8_drawnRemark_56 : decode cX8_drawnRemark 56 = .ok (.iload_n 0, 1) := by decide +kernel
theorem dX8_drawnRemark_57 : decode cX8_drawnRemark 57 = .ok (.bipush 8, 2) := by decide +kernel
theorem dX8_drawnRemark_59 : decode cX8_drawnRemark 59 = .ok (.idiv, 1) := by decide +kernel
theorem dX8_drawnRemark_60 : decode cX8_drawnRemark 60 = .ok (.bipush 6, 2) := by decide +kernel
theorem dX8_drawnRemark_62 : decode cX8_drawnRemark 62 = .ok (.irem, 1) := by decide +kernel
theorem dX8_drawnRemark_63 : decode cX8_drawnRemark 63 = .ok (.iload_n 2, 1) := by decide +kernel
theorem dX8_drawnRemark_64 : decode cX8_drawnRemark 64 = .ok (.iload_n 0, 1) := by decide +kernel
theorem dX8_drawnRemark_65 : decode cX8_drawnRemark 65 = .ok (.sipush 480, 3) := by decide +kernel
theorem dX8_drawnRemark_68 : decode cX8_drawnRemark 68 = .ok (.idiv, 1) := by decide +kernel
theorem dX8_drawnRemark_69 : decode cX8_drawnRemark 69 = .ok (.iconst 2, 1) := by decide +kernel
theorem dX8_drawnRemark_70 : decode cX8_drawnRemark 70 = .ok (.irem, 1) := by decide +kernel
theorem dX8_drawnRemark_71 : decode cX8_drawnRemark 71 = .ok (.iconst 1, 1) := by decide +kernel
theorem dX8_drawnRemark_72 : decode cX8_drawnRemark 72 = .ok (.if_icmp .ne 7, 3) := by decide +kernel
theorem dX8_drawnRemark_75 : decode cX8_drawnRemark 75 = .ok (.iconst 1, 1) := by decide +kernel
theorem dX8_drawnRemark_76 : decode cX8_drawnRemark 76 = .ok (.goto 4, 3) := by decide +kernel
theorem dX8_drawnRemark_79 : decode cX8_drawnRemark 79 = .ok (.iconst 0, 1) := by decide +kernel
theorem dX8_drawnRemark_80 : decode cX8_drawnRemark 80 = .ok (.invokestatic 295, 3) := by decide +kernel
theorem dX8_drawnRemark_83 : decode cX8_drawnRemark 83 = .ok (.ireturn, 1) := by decide +kernel
theorem dX8_whyNot_0 : decode cX8_whyNot 0 = .ok (.iconst 0, 1) := by decide +kernel
theorem dX8_whyNot_1 : decode cX8_whyNot 1 = .ok (.istore 4, 2) := by decide +kernel
theorem dX8_whyNot_3 : decode cX8_whyNot 3 = .ok (.iload_n 0, 1) := by decide +kernel
theorem dX8_whyNot_4 : decode cX8_whyNot 4 = .ok (.invokestatic 299, 3) := by decide +kernel
theorem dX8_whyNot_7 : decode cX8_whyNot 7 = .ok (.ifCond .eq 41, 3) := by decide +kernel
theorem dX8_whyNot_10 : decode cX8_whyNot 10 = .ok (.iload_n 0, 1) := by decide +kernel
theorem dX8_whyNot_11 : decode cX8_whyNot 11 = .ok (.iload_n 2, 1) := by decide +kernel
theorem dX8_whyNot_12 : decode cX8_whyNot 12 = .ok (.invokestatic 302, 3) := by decide +kernel
theorem dX8_whyNot_15 : decode cX8_whyNot 15 = .ok (.ifCond .ne 7, 3) := by decide +kernel
theorem dX8_whyNot_18 : decode cX8_whyNot 18 = .ok (.iconst 1, 1) := by decide +kernel
theorem dX8_whyNot_19 : decode cX8_whyNot 19 = .ok (.goto 4, 3) := by decide +kernel
theorem dX8_whyNot_22 : decode cX8_whyNot 22 = .ok (.iconst 0, 1) := by decide +kernel
theorem dX8_whyNot_23 : decode cX8_whyNot 23 = .ok (.istore 4, 2) := by decide +kernel
theorem dX8_whyNot_25 : decode cX8_whyNot 25 = .ok (.aload_n 1, 1) := by decide +kernel
theorem dX8_whyNot_26 : decode cX8_whyNot 26 = .ok (.iload_n 0, 1) := by decide +kernel
theorem dX8_whyNot_27 : decode cX8_whyNot 27 = .ok (.invokestatic 305, 3) := by decide +kernel
theorem dX8_whyNot_30 : decode cX8_whyNot 30 = .ok (.invokevirtual 83, 3) := by decide +kernel
theorem dX8_whyNot_33 : decode cX8_whyNot 33 = .ok (.iload 4, 2) := by decide +kernel
theorem dX8_whyNot_35 : decode cX8_whyNot 35 = .ok (.ifCond .eq 7, 3) := by decide +kernel
theorem dX8_whyNot_38 : decode cX8_whyNot 38 = .ok (.iconst 1, 1) := by decide +kernel
theorem dX8_whyNot_39 : decode cX8_whyNot 39 = .ok (.goto 4, 3) := by decide +kernel
theorem dX8_whyNot_42 : decode cX8_whyNot 42 = .ok (.iconst 2, 1) := by decide +kernel
theorem dX8_whyNot_43 : decode cX8_whyNot 43 = .ok (.if_icmp .ne 5, 3) := by decide +kernel
theorem dX8_whyNot_46 : decode cX8_whyNot 46 = .ok (.iconst 1, 1) := by decide +kernel
theorem dX8_whyNot_47 : decode cX8_whyNot 47 = .ok (.ireturn, 1) := by decide +kernel
theorem dX8_whyNot_48 : decode cX8_whyNot 48 = .ok (.iload 4, 2) := by decide +kernel
theorem dX8_whyNot_50 : decode cX8_whyNot 50 = .ok (.ifCond .ne 9, 3) := by decide +kernel
theorem dX8_whyNot_53 : decode cX8_whyNot 53 = .ok (.iload_n 0, 1) := by decide +kernel
theorem dX8_whyNot_54 : decode cX8_whyNot 54 = .ok (.bipush 100, 2) := by decide +kernel
theorem dX8_whyNot_56 : decode cX8_whyNot 56 = .ok (.if_icmp .ne 7, 3) := by decide +kernel
theorem dX8_whyNot_59 : decode cX8_whyNot 59 = .ok (.iconst 1, 1) := by decide +kernel
theorem dX8_whyNot_60 : decode cX8_whyNot 60 = .ok (.goto 4, 3) := by decide +kernel
theorem dX8_whyNot_63 : decode cX8_whyNot 63 = .ok (.iconst 0, 1) := by decide +kernel
theorem dX8_whyNot_64 : decode cX8_whyNot 64 = .ok (.istore 5, 2) := by decide +kernel
theorem dX8_whyNot_66 : decode cX8_whyNot 66 = .ok (.iload 5, 2) := by decide +kernel
theorem dX8_whyNot_68 : decode cX8_whyNot 68 = .ok (.ifCond .eq 14, 3) := by decide +kernel
theorem dX8_whyNot_71 : decode cX8_whyNot 71 = .ok (.aload_n 3, 1) := by decide +kernel
theorem dX8_whyNot_72 : decode cX8_whyNot 72 = .ok (.getfield 134, 3) := by decide +kernel
theorem dX8_whyNot_75 : decode cX8_whyNot 75 = .ok (.bipush 30, 2) := by decide +kernel
theorem dX8_whyNot_77 : decode cX8_whyNot 77 = .ok (.if_icmp .lt 5, 3) := by decide +kernel
theorem dX8_whyNot_80 : decode cX8_whyNot 80 = .ok (.iconst 2, 1) := by decide +kernel
theorem dX8_whyNot_81 : decode cX8_whyNot 81 = .ok (.ireturn, 1) := by decide +kernel
theorem dX8_whyNot_82 : decode cX8_whyNot 82 = .ok (.iload 5, 2) := by decide +kernel
theorem dX8_whyNot_84 : decode cX8_whyNot 84 = .ok (.ifCond .ne 9, 3) := by decide +kernel
theorem dX8_whyNot_87 : decode cX8_whyNot 87 = .ok (.iload_n 0, 1) := by decide +kernel
theorem dX8_whyNot_88 : decode cX8_whyNot 88 = .ok (.bipush 101, 2) := by decide +kernel
theorem dX8_whyNot_90 : decode cX8_whyNot 90 = .ok (.if_icmp .ne 13, 3) := by decide +kernel
theorem dX8_whyNot_93 : decode cX8_whyNot 93 = .ok (.aload_n 3, 1) := by decide +kernel
theorem dX8_whyNot_94 : decode cX8_whyNot 94 = .ok (.getfield 99, 3) := by decide +kernel
theorem dX8_whyNot_97 : decode cX8_whyNot 97 = .ok (.iconst 1, 1) := by decide +kernel
theorem dX8_whyNot_98 : decode cX8_whyNot 98 = .ok (.if_icmp .ge 5, 3) := by decide +kernel
theorem dX8_whyNot_101 : decode cX8_whyNot 101 = .ok (.iconst 3, 1) := by decide +kernel
theorem dX8_whyNot_102 : decode cX8_whyNot 102 = .ok (.ireturn, 1) := by decide +kernel
theorem dX8_whyNot_103 : decode cX8_whyNot 103 = .ok (.iconst 0, 1) := by decide +kernel
theorem dX8_whyNot_104 : decode cX8_whyNot 104 = .ok (.ireturn, 1) := by decide +kernel
theorem dX8_isWithin_0 : decode cX8_isWithin 0 = .ok (.iload_n 0, 1) := by decide +kernel
theorem dX8_isWithin_1 : decode cX8_isWithin 1 = .ok (.iload_n 1, 1) := by decide +kernel
theorem dX8_isWithin_2 : decode cX8_isWithin 2 = .ok (.if_icmp .lt 12, 3) := by decide +kernel
theorem dX8_isWithin_5 : decode cX8_isWithin 5 = .ok (.iload_n 0, 1) := by decide +kernel
theorem dX8_isWithin_6 : decode cX8_isWithin 6 = .ok (.iload_n 2, 1) := by decide +kernel
theorem dX8_isWithin_7 : decode cX8_isWithin 7 = .ok (.if_icmp .gt 7, 3) := by decide +kernel
theorem dX8_isWithin_10 : decode cX8_isWithin 10 = .ok (.iconst 1, 1) := by decide +kernel
theorem dX8_isWithin_11 : decode cX8_isWithin 11 = .ok (.goto 4, 3) := by decide +kernel
theorem dX8_isWithin_14 : decode cX8_isWithin 14 = .ok (.iconst 0, 1) := by decide +kernel
theorem dX8_isWithin_15 : decode cX8_isWithin 15 = .ok (.ireturn, 1) := by decide +kernel
theorem dX8_isGuest_0 : decode cX8_isGuest 0 = .ok (.iload_n 0, 1) := by decide +kernel
theorem dX8_isGuest_1 : decode cX8_isGuest 1 = .ok (.iconst 0, 1) := by decide +kernel
theorem dX8_isGuest_2 : decode cX8_isGuest 2 = .ok (.iconst 5, 1) := by decide +kernel
theorem dX8_isGuest_3 : decode cX8_isGuest 3 = .ok (.invokestatic 64, 3) := by decide +kernel
theorem dX8_isGuest_6 : decode cX8_isGuest 6 = .ok (.ireturn, 1) := by decide +kernel
theorem dX8_areOrders_0 : decode cX8_areOrders 0 = .ok (.iload_n 0, 1) := by decide +kernel
theorem dX8_areOrders_1 : decode cX8_areOrders 1 = .ok (.iconst 0, 1) := by decide +kernel
theorem dX8_areOrders_2 : decode cX8_areOrders 2 = .ok (.bipush 12, 2) := by decide +kernel
theorem dX8_areOrders_4 : decode cX8_areOrders 4 = .ok (.invokestatic 64, 3) := by decide +kernel
theorem dX8_areOrders_7 : decode cX8_areOrders 7 = .ok (.ifCond .eq 27, 3) := by decide +kernel
theorem dX8_areOrders_10 : decode cX8_areOrders 10 = .ok (.iload_n 1, 1) := by decide +kernel
theorem dX8_areOrders_11 : decode cX8_areOrders 11 = .ok (.iconst 0, 1) := by decide +kernel
theorem dX8_areOrders_12 : decode cX8_areOrders 12 = .ok (.bipush 12, 2) := by decide +kernel
theorem dX8_areOrders_14 : decode cX8_areOrders 14 = .ok (.invokestatic 64, 3) := by decide +kernel
theorem dX8_areOrders_17 : decode cX8_areOrders 17 = .ok (.ifCond .eq 17, 3) := by decide +kernel
theorem dX8_areOrders_20 : decode cX8_areOrders 20 = .ok (.iload_n 2, 1) := by decide +kernel
theorem dX8_areOrders_21 : decode cX8_areOrders 21 = .ok (.iconst 0, 1) := by decide +kernel
theorem dX8_areOrders_22 : decode cX8_areOrders 22 = .ok (.bipush 30, 2) := by decide +kernel
theorem dX8_areOrders_24 : decode cX8_areOrders 24 = .ok (.invokestatic 64, 3) := by decide +kernel
theorem dX8_areOrders_27 : decode cX8_areOrders 27 = .ok (.ifCond .eq 7, 3) := by decide +kernel
theorem dX8_areOrders_30 : decode cX8_areOrders 30 = .ok (.iconst 1, 1) := by decide +kernel
theorem dX8_areOrders_31 : decode cX8_areOrders 31 = .ok (.goto 4, 3) := by decide +kernel
theorem dX8_areOrders_34 : decode cX8_areOrders 34 = .ok (.iconst 0, 1) := by decide +kernel
theorem dX8_areOrders_35 : decode cX8_areOrders 35 = .ok (.ireturn, 1) := by decide +kernel
theorem dX8_areChances_0 : decode cX8_areChances 0 = .ok (.iload_n 0, 1) := by decide +kernel
theorem dX8_areChances_1 : decode cX8_areChances 1 = .ok (.iconst 0, 1) := by decide +kernel
theorem dX8_areChances_2 : decode cX8_areChances 2 = .ok (.bipush 12, 2) := by decide +kernel
theorem dX8_areChances_4 : decode cX8_areChances 4 = .ok (.invokestatic 64, 3) := by decide +kernel
theorem dX8_areChances_7 : decode cX8_areChances 7 = .ok (.ifCond .eq 17, 3) := by decide +kernel
theorem dX8_areChances_10 : decode cX8_areChances 10 = .ok (.iload_n 1, 1) := by decide +kernel
theorem dX8_areChances_11 : decode cX8_areChances 11 = .ok (.iconst 0, 1) := by decide +kernel
theorem dX8_areChances_12 : decode cX8_areChances 12 = .ok (.bipush 10, 2) := by decide +kernel
theorem dX8_areChances_14 : decode cX8_areChances 14 = .ok (.invokestatic 64, 3) := by decide +kernel
theorem dX8_areChances_17 : decode cX8_areChances 17 = .ok (.ifCond .eq 7, 3) := by decide +kernel
theorem dX8_areChances_20 : decode cX8_areChances 20 = .ok (.iconst 1, 1) := by decide +kernel
theorem dX8_areChances_21 : decode cX8_areChances 21 = .ok (.goto 4, 3) := by decide +kernel
theorem dX8_areChances_24 : decode cX8_areChances 24 = .ok (.iconst 0, 1) := by decide +kernel
theorem dX8_areChances_25 : decode cX8_areChances 25 = .ok (.ireturn, 1) := by decide +kernel
theorem dX8_powerOfTen_0 : decode cX8_powerOfTen 0 = .ok (.lconst 1, 1) := by decide +kernel
theorem dX8_powerOfTen_1 : decode cX8_powerOfTen 1 = .ok (.lstore_n 1, 1) := by decide +kernel
theorem dX8_powerOfTen_2 : decode cX8_powerOfTen 2 = .ok (.iconst 0, 1) := by decide +kernel
theorem dX8_powerOfTen_3 : decode cX8_powerOfTen 3 = .ok (.istore_n 3, 1) := by decide +kernel
theorem dX8_powerOfTen_4 : decode cX8_powerOfTen 4 = .ok (.iload_n 3, 1) := by decide +kernel
theorem dX8_powerOfTen_5 : decode cX8_powerOfTen 5 = .ok (.iload_n 0, 1) := by decide +kernel
theorem dX8_powerOfTen_6 : decode cX8_powerOfTen 6 = .ok (.if_icmp .ge 21, 3) := by decide +kernel
theorem dX8_powerOfTen_9 : decode cX8_powerOfTen 9 = .ok (.iload_n 3, 1) := by decide +kernel
theorem dX8_powerOfTen_10 : decode cX8_powerOfTen 10 = .ok (.bipush 12, 2) := by decide +kernel
theorem dX8_powerOfTen_12 : decode cX8_powerOfTen 12 = .ok (.if_icmp .ge 15, 3) := by decide +kernel
theorem dX8_powerOfTen_15 : decode cX8_powerOfTen 15 = .ok (.lload_n 1, 1) := by decide +kernel
theorem dX8_powerOfTen_16 : decode cX8_powerOfTen 16 = .ok (.ldc2_w 308, 3) := by decide +kernel
theorem dX8_powerOfTen_19 : decode cX8_powerOfTen 19 = .ok (.lmul, 1) := by decide +kernel
theorem dX8_powerOfTen_20 : decode cX8_powerOfTen 20 = .ok (.lstore_n 1, 1) := by decide +kernel
theorem dX8_powerOfTen_21 : decode cX8_powerOfTen 21 = .ok (.iinc 3 1, 3) := by decide +kernel
theorem dX8_powerOfTen_24 : decode cX8_powerOfTen 24 = .ok (.goto (-20), 3) := by decide +kernel
theorem dX8_powerOfTen_27 : decode cX8_powerOfTen 27 = .ok (.lload_n 1, 1) := by decide +kernel
theorem dX8_powerOfTen_28 : decode cX8_powerOfTen 28 = .ok (.lreturn, 1) := by decide +kernel
theorem dX8_greatestDivisor_0 : decode cX8_greatestDivisor 0 = .ok (.lload_n 0, 1) := by decide +kernel
theorem dX8_greatestDivisor_1 : decode cX8_greatestDivisor 1 = .ok (.lstore 4, 2) := by decide +kernel
theorem dX8_greatestDivisor_3 : decode cX8_greatestDivisor 3 = .ok (.lload_n 2, 1) := by decide +kernel
theorem dX8_greatestDivisor_4 : decode cX8_greatestDivisor 4 = .ok (.lstore 6, 2) := by decide +kernel
theorem dX8_greatestDivisor_6 : decode cX8_greatestDivisor 6 = .ok (.iconst 0, 1) := by decide +kernel
theorem dX8_greatestDivisor_7 : decode cX8_greatestDivisor 7 = .ok (.istore 8, 2) := by decide +kernel
theorem dX8_greatestDivisor_9 : decode cX8_greatestDivisor 9 = .ok (.iload 8, 2) := by decide +kernel
theorem dX8_greatestDivisor_11 : decode cX8_greatestDivisor 11 = .ok (.sipush 200, 3) := by decide +kernel
theorem dX8_greatestDivisor_14 : decode cX8_greatestDivisor 14 = .ok (.if_icmp .ge 31, 3) := by decide +kernel
theorem dX8_greatestDivisor_17 : decode cX8_greatestDivisor 17 = .ok (.lload 6, 2) := by decide +kernel
theorem dX8_greatestDivisor_19 : decode cX8_greatestDivisor 19 = .ok (.lconst 0, 1) := by decide +kernel
theorem dX8_greatestDivisor_20 : decode cX8_greatestDivisor 20 = .ok (.lcmp, 1) := by decide +kernel
theorem dX8_greatestDivisor_21 : decode cX8_greatestDivisor 21 = .ok (.ifCond .eq 24, 3) := by decide +kernel
theorem dX8_greatestDivisor_24 : decode cX8_greatestDivisor 24 = .ok (.lload 4, 2) := by decide +kernel
theorem dX8_greatestDivisor_26 : decode cX8_greatestDivisor 26 = .ok (.lload 6, 2) := by decide +kernel
theorem dX8_greatestDivisor_28 : decode cX8_greatestDivisor 28 = .ok (.lrem, 1) := by decide +kernel
theorem dX8_greatestDivisor_29 : decode cX8_greatestDivisor 29 = .ok (.lstore 9, 2) := by decide +kernel
theorem dX8_greatestDivisor_31 : decode cX8_greatestDivisor 31 = .ok (.lload 6, 2) := by decide +kernel
theorem dX8_greatestDivisor_33 : decode cX8_greatestDivisor 33 = .ok (.lstore 4, 2) := by decide +kernel
theorem dX8_greatestDivisor_35 : decode cX8_greatestDivisor 35 = .ok (.lload 9, 2) := by decide +kernel
theorem dX8_greatestDivisor_37 : decode cX8_greatestDivisor 37 = .ok (.lstore 6, 2) := by decide +kernel
theorem dX8_greatestDivisor_39 : decode cX8_greatestDivisor 39 = .ok (.iinc 8 1, 3) := by decide +kernel
theorem dX8_greatestDivisor_42 : decode cX8_greatestDivisor 42 = .ok (.goto (-33), 3) := by decide +kernel
theorem dX8_greatestDivisor_45 : decode cX8_greatestDivisor 45 = .ok (.lload 4, 2) := by decide +kernel
theorem dX8_greatestDivisor_47 : decode cX8_greatestDivisor 47 = .ok (.lreturn, 1) := by decide +kernel
theorem dX8_at_0 : decode cX8_at 0 = .ok (.iload_n 1, 1) := by decide +kernel
theorem dX8_at_1 : decode cX8_at 1 = .ok (.ifCond .lt 15, 3) := by decide +kernel
theorem dX8_at_4 : decode cX8_at 4 = .ok (.iload_n 1, 1) := by decide +kernel
theorem dX8_at_5 : decode cX8_at 5 = .ok (.aload_n 0, 1) := by decide +kernel
theorem dX8_at_6 : decode cX8_at 6 = .ok (.arraylength, 1) := by decide +kernel
theorem dX8_at_7 : decode cX8_at 7 = .ok (.if_icmp .ge 9, 3) := by decide +kernel
theorem dX8_at_10 : decode cX8_at 10 = .ok (.aload_n 0, 1) := by decide +kernel
theorem dX8_at_11 : decode cX8_at 11 = .ok (.iload_n 1, 1) := by decide +kernel
theorem dX8_at_12 : decode cX8_at 12 = .ok (.iaload, 1) := by decide +kernel
theorem dX8_at_13 : decode cX8_at 13 = .ok (.goto 5, 3) := by decide +kernel
theorem dX8_at_16 : decode cX8_at 16 = .ok (.bipush (-6), 2) := by decide +kernel
theorem dX8_at_18 : decode cX8_at 18 = .ok (.ireturn, 1) := by decide +kernel
theorem dX8_put_0 : decode cX8_put 0 = .ok (.iload_n 1, 1) := by decide +kernel
theorem dX8_put_1 : decode cX8_put 1 = .ok (.ifCond .lt 13, 3) := by decide +kernel
theorem dX8_put_4 : decode cX8_put 4 = .ok (.iload_n 1, 1) := by decide +kernel
theorem dX8_put_5 : decode cX8_put 5 = .ok (.aload_n 0, 1) := by decide +kernel
theorem dX8_put_6 : decode cX8_put 6 = .ok (.arraylength, 1) := by decide +kernel
theorem dX8_put_7 : decode cX8_put 7 = .ok (.if_icmp .ge 7, 3) := by decide +kernel
theorem dX8_put_10 : decode cX8_put 10 = .ok (.aload_n 0, 1) := by decide +kernel
theorem dX8_put_11 : decode cX8_put 11 = .ok (.iload_n 1, 1) := by decide +kernel
theorem dX8_put_12 : decode cX8_put 12 = .ok (.iload_n 2, 1) := by decide +kernel
theorem dX8_put_13 : decode cX8_put 13 = .ok (.iastore, 1) := by decide +kernel
theorem dX8_put_14 : decode cX8_put 14 = .ok (.return_, 1) := by decide +kernel
theorem dX8_at__0 : decode cX8_at_ 0 = .ok (.iload_n 1, 1) := by decide +kernel
theorem dX8_at__1 : decode cX8_at_ 1 = .ok (.ifCond .lt 15, 3) := by decide +kernel
theorem dX8_at__4 : decode cX8_at_ 4 = .ok (.iload_n 1, 1) := by decide +kernel
theorem dX8_at__5 : decode cX8_at_ 5 = .ok (.aload_n 0, 1) := by decide +kernel
theorem dX8_at__6 : decode cX8_at_ 6 = .ok (.arraylength, 1) := by decide +kernel
theorem dX8_at__7 : decode cX8_at_ 7 = .ok (.if_icmp .ge 9, 3) := by decide +kernel
theorem dX8_at__10 : decode cX8_at_ 10 = .ok (.aload_n 0, 1) := by decide +kernel
theorem dX8_at__11 : decode cX8_at_ 11 = .ok (.iload_n 1, 1) := by decide +kernel
theorem dX8_at__12 : decode cX8_at_ 12 = .ok (.laload, 1) := by decide +kernel
theorem dX8_at__13 : decode cX8_at_ 13 = .ok (.goto 4, 3) := by decide +kernel
theorem dX8_at__16 : decode cX8_at_ 16 = .ok (.lconst 0, 1) := by decide +kernel
theorem dX8_at__17 : decode cX8_at_ 17 = .ok (.lreturn, 1) := by decide +kernel
theorem dX8_put__0 : decode cX8_put_ 0 = .ok (.iload_n 1, 1) := by decide +kernel
theorem dX8_put__1 : decode cX8_put_ 1 = .ok (.ifCond .lt 13, 3) := by decide +kernel
theorem dX8_put__4 : decode cX8_put_ 4 = .ok (.iload_n 1, 1) := by decide +kernel
theorem dX8_put__5 : decode cX8_put_ 5 = .ok (.aload_n 0, 1) := by decide +kernel
theorem dX8_put__6 : decode cX8_put_ 6 = .ok (.arraylength, 1) := by decide +kernel
theorem dX8_put__7 : decode cX8_put_ 7 = .ok (.if_icmp .ge 7, 3) := by decide +kernel
theorem dX8_put__10 : decode cX8_put_ 10 = .ok (.aload_n 0, 1) := by decide +kernel
theorem dX8_put__11 : decode cX8_put_ 11 = .ok (.iload_n 1, 1) := by decide +kernel
theorem dX8_put__12 : decode cX8_put_ 12 = .ok (.lload_n 2, 1) := by decide +kernel
theorem dX8_put__13 : decode cX8_put_ 13 = .ok (.lastore, 1) := by decide +kernel
theorem dX8_put__14 : decode cX8_put_ 14 = .ok (.return_, 1) := by decide +kernel
theorem dX8_copyAll_0 : decode cX8_copyAll 0 = .ok (.aload_n 0, 1) := by decide +kernel
theorem dX8_copyAll_1 : decode cX8_copyAll 1 = .ok (.iconst 0, 1) := by decide +kernel
theorem dX8_copyAll_2 : decode cX8_copyAll 2 = .ok (.aload_n 1, 1) := by decide +kernel
theorem dX8_copyAll_3 : decode cX8_copyAll 3 = .ok (.iconst 0, 1) := by decide +kernel
theorem dX8_copyAll_4 : decode cX8_copyAll 4 = .ok (.aload_n 0, 1) := by decide +kernel
theorem dX8_copyAll_5 : decode cX8_copyAll 5 = .ok (.arraylength, 1) := by decide +kernel
theorem dX8_copyAll_6 : decode cX8_copyAll 6 = .ok (.aload_n 1, 1) := by decide +kernel
theorem dX8_copyAll_7 : decode cX8_copyAll 7 = .ok (.arraylength, 1) := by decide +kernel
theorem dX8_copyAll_8 : decode cX8_copyAll 8 = .ok (.invokestatic 292, 3) := by decide +kernel
theorem dX8_copyAll_11 : decode cX8_copyAll 11 = .ok (.invokestatic 310, 3) := by decide +kernel
theorem dX8_copyAll_14 : decode cX8_copyAll 14 = .ok (.return_, 1) := by decide +kernel
theorem dX9_init_0 : decode cX9_init 0 = .ok (.aload_n 0, 1) := by decide +kernel
theorem dX9_init_1 : decode cX9_init 1 = .ok (.invokespecial 1, 3) := by decide +kernel
theorem dX9_init_4 : decode cX9_init 4 = .ok (.aload_n 0, 1) := by decide +kernel
theorem dX9_init_5 : decode cX9_init 5 = .ok (.bipush 6, 2) := by decide +kernel
theorem dX9_init_7 : decode cX9_init 7 = .ok (.newarray .int, 2) := by decide +kernel
theorem dX9_init_9 : decode cX9_init 9 = .ok (.putfield 7, 3) := by decide +kernel
theorem dX9_init_12 : decode cX9_init 12 = .ok (.aload_n 0, 1) := by decide +kernel
theorem dX9_init_13 : decode cX9_init 13 = .ok (.bipush 30, 2) := by decide +kernel
theorem dX9_init_15 : decode cX9_init 15 = .ok (.newarray .int, 2) := by decide +kernel
theorem dX9_init_17 : decode cX9_init 17 = .ok (.putfield 13, 3) := by decide +kernel
theorem dX9_init_20 : decode cX9_init 20 = .ok (.aload_n 0, 1) := by decide +kernel
theorem dX9_init_21 : decode cX9_init 21 = .ok (.bipush 30, 2) := by decide +kernel
theorem dX9_init_23 : decode cX9_init 23 = .ok (.newarray .int, 2) := by decide +kernel
theorem dX9_init_25 : decode cX9_init 25 = .ok (.putfield 16, 3) := by decide +kernel
theorem dX9_init_28 : decode cX9_init 28 = .ok (.aload_n 0, 1) := by decide +kernel
theorem dX9_init_29 : decode cX9_init 29 = .ok (.bipush 30, 2) := by decide +kernel
theorem dX9_init_31 : decode cX9_init 31 = .ok (.newarray .int, 2) := by decide +kernel
theorem dX9_init_33 : decode cX9_init 33 = .ok (.putfield 19, 3) := by decide +kernel
theorem dX9_init_36 : decode cX9_init 36 = .ok (.aload_n 0, 1) := by decide +kernel
theorem dX9_init_37 : decode cX9_init 37 = .ok (.bipush 8, 2) := by decide +kernel
theorem dX9_init_39 : decode cX9_init 39 = .ok (.newarray .int, 2) := by decide +kernel
theorem dX9_init_41 : decode cX9_init 41 = .ok (.putfield 22, 3) := by decide +kernel
theorem dX9_init_44 : decode cX9_init 44 = .ok (.aload_n 0, 1) := by decide +kernel
theorem dX9_init_45 : decode cX9_init 45 = .ok (.bipush 8, 2) := by decide +kernel
theorem dX9_init_47 : decode cX9_init 47 = .ok (.newarray .int, 2) := by decide +kernel
theorem dX9_init_49 : decode cX9_init 49 = .ok (.putfield 25, 3) := by decide +kernel
theorem dX9_init_52 : decode cX9_init 52 = .ok (.aload_n 0, 1) := by decide +kernel
theorem dX9_init_53 : decode cX9_init 53 = .ok (.bipush 60, 2) := by decide +kernel
theorem dX9_init_55 : decode cX9_init 55 = .ok (.newarray .int, 2) := by decide +kernel
theorem dX9_init_57 : decode cX9_init 57 = .ok (.putfield 28, 3) := by decide +kernel
theorem dX9_init_60 : decode cX9_init 60 = .ok (.aload_n 0, 1) := by decide +kernel
theorem dX9_init_61 : decode cX9_init 61 = .ok (.bipush 60, 2) := by decide +kernel
theorem dX9_init_63 : decode cX9_init 63 = .ok (.newarray .int, 2) := by decide +kernel
theorem dX9_init_65 : decode cX9_init 65 = .ok (.putfield 31, 3) := by decide +kernel
theorem dX9_init_68 : decode cX9_init 68 = .ok (.aload_n 0, 1) := by decide +kernel
theorem dX9_init_69 : decode cX9_init 69 = .ok (.bipush 60, 2) := by decide +kernel
theorem dX9_init_71 : decode cX9_init 71 = .ok (.newarray .int, 2) := by decide +kernel
theorem dX9_init_73 : decode cX9_init 73 = .ok (.putfield 34, 3) := by decide +kernel
theorem dX9_init_76 : decode cX9_init 76 = .ok (.aload_n 0, 1) := by decide +kernel
theorem dX9_init_77 : decode cX9_init 77 = .ok (.bipush 60, 2) := by decide +kernel
theorem dX9_init_79 : decode cX9_init 79 = .ok (.newarray .int, 2) := by decide +kernel
theorem dX9_init_81 : decode cX9_init 81 = .ok (.putfield 37, 3) := by decide +kernel
theorem dX9_init_84 : decode cX9_init 84 = .ok (.aload_n 0, 1) := by decide +kernel
theorem dX9_init_85 : decode cX9_init 85 = .ok (.bipush 60, 2) := by decide +kernel
theorem dX9_init_87 : decode cX9_init 87 = .ok (.newarray .int, 2) := by decide +kernel
theorem dX9_init_89 : decode cX9_init 89 = .ok (.putfield 40, 3) := by decide +kernel
theorem dX9_init_92 : decode cX9_init 92 = .ok (.aload_n 0, 1) := by decide +kernel
theorem dX9_init_93 : decode cX9_init 93 = .ok (.bipush 60, 2) := by decide +kernel
theorem dX9_init_95 : decode cX9_init 95 = .ok (.newarray .int, 2) := by decide +kernel
theorem dX9_init_97 : decode cX9_init 97 = .ok (.putfield 43, 3) := by decide +kernel
theorem dX9_init_100 : decode cX9_init 100 = .ok (.aload_n 0, 1) := by decide +kernel
theorem dX9_init_101 : decode cX9_init 101 = .ok (.bipush 60, 2) := by decide +kernel
theorem dX9_init_103 : decode cX9_init 103 = .ok (.newarray .int, 2) := by decide +kernel
theorem dX9_init_105 : decode cX9_init 105 = .ok (.putfield 46, 3) := by decide +kernel
theorem dX9_init_108 : decode cX9_init 108 = .ok (.aload_n 0, 1) := by decide +kernel
theorem dX9_init_109 : decode cX9_init 109 = .ok (.bipush 30, 2) := by decide +kernel
theorem dX9_init_111 : decode cX9_init 111 = .ok (.newarray .int, 2) := by decide +kernel
theorem dX9_init_113 : decode cX9_init 113 = .ok (.putfield 49, 3) := by decide +kernel
theorem dX9_init_116 : decode cX9_init 116 = .ok (.aload_n 0, 1) := by decide +kernel
theorem dX9_init_117 : decode cX9_init 117 = .ok (.bipush 92, 2) := by decide +kernel
theorem dX9_init_119 : decode cX9_init 119 = .ok (.newarray .int, 2) := by decide +kernel
theorem dX9_init_121 : decode cX9_init 121 = .ok (.putfield 52, 3) := by decide +kernel
theorem dX9_init_124 : decode cX9_init 124 = .ok (.aload_n 0, 1) := by decide +kernel
theorem dX9_init_125 : decode cX9_init 125 = .ok (.bipush 90, 2) := by decide +kernel
theorem dX9_init_127 : decode cX9_init 127 = .ok (.newarray .int, 2) := by decide +kernel
theorem dX9_init_129 : decode cX9_init 129 = .ok (.putfield 55, 3) := by decide +kernel
theorem dX9_init_132 : decode cX9_init 132 = .ok (.aload_n 0, 1) := by decide +kernel
theorem dX9_init_133 : decode cX9_init 133 = .ok (.bipush 31, 2) := by decide +kernel
theorem dX9_init_135 : decode cX9_init 135 = .ok (.newarray .int, 2) := by decide +kernel
theorem dX9_init_137 : decode cX9_init 137 = .ok (.putfield 58, 3) := by decide +kernel
theorem dX9_init_140 : decode cX9_init 140 = .ok (.aload_n 0, 1) := by decide +kernel
theorem dX9_init_141 : decode cX9_init 141 = .ok (.bipush 8, 2) := by decide +kernel
theorem dX9_init_143 : decode cX9_init 143 = .ok (.newarray .int, 2) := by decide +kernel
theorem dX9_init_145 : decode cX9_init 145 = .ok (.putfield 61, 3) := by decide +kernel
theorem dX9_init_148 : decode cX9_init 148 = .ok (.aload_n 0, 1) := by decide +kernel
theorem dX9_init_149 : decode cX9_init 149 = .ok (.bipush 96, 2) := by decide +kernel
theorem dX9_init_151 : decode cX9_init 151 = .ok (.newarray .long, 2) := by decide +kernel
theorem dX9_init_153 : decode cX9_init 153 = .ok (.putfield 64, 3) := by decide +kernel
theorem dX9_init_156 : decode cX9_init 156 = .ok (.aload_n 0, 1) := by decide +kernel
theorem dX9_init_157 : decode cX9_init 157 = .ok (.bipush 96, 2) := by decide +kernel
theorem dX9_init_159 : decode cX9_init 159 = .ok (.newarray .long, 2) := by decide +kernel
theorem dX9_init_161 : decode cX9_init 161 = .ok (.putfield 68, 3) := by decide +kernel
theorem dX9_init_164 : decode cX9_init 164 = .ok (.aload_n 0, 1) := by decide +kernel
theorem dX9_init_165 : decode cX9_init 165 = .ok (.sipush 1248, 3) := by decide +kernel
theorem dX9_init_168 : decode cX9_init 168 = .ok (.newarray .long, 2) := by decide +kernel
theorem dX9_init_170 : decode cX9_init 170 = .ok (.putfield 71, 3) := by decide +kernel
theorem dX9_init_173 : decode cX9_init 173 = .ok (.aload_n 0, 1) := by decide +kernel
theorem dX9_init_174 : decode cX9_init 174 = .ok (.sipush 260, 3) := by decide +kernel
theorem dX9_init_177 : decode cX9_init 177 = .ok (.newarray .int, 2) := by decide +kernel
theorem dX9_init_179 : decode cX9_init 179 = .ok (.putfield 74, 3) := by decide +kernel
theorem dX9_init_182 : decode cX9_init 182 = .ok (.aload_n 0, 1) := by decide +kernel
theorem dX9_init_183 : decode cX9_init 183 = .ok (.iconst 2, 1) := by decide +kernel
theorem dX9_init_184 : decode cX9_init 184 = .ok (.newarray .boolean, 2) := by decide +kernel
theorem dX9_init_186 : decode cX9_init 186 = .ok (.putfield 77, 3) := by decide +kernel
theorem dX9_init_189 : decode cX9_init 189 = .ok (.aload_n 0, 1) := by decide +kernel
theorem dX9_init_190 : decode cX9_init 190 = .ok (.iconst 4, 1) := by decide +kernel
theorem dX9_init_191 : decode cX9_init 191 = .ok (.invokevirtual 81, 3) := by decide +kernel
theorem dX9_init_194 : decode cX9_init 194 = .ok (.return_, 1) := by decide +kernel
theorem dX9_in_0 : decode cX9_in 0 = .ok (.lload_n 0, 1) := by decide +kernel
theorem dX9_in_1 : decode cX9_in 1 = .ok (.lload_n 2, 1) := by decide +kernel
theorem dX9_in_2 : decode cX9_in 2 = .ok (.lcmp, 1) := by decide +kernel
theorem dX9_in_3 : decode cX9_in 3 = .ok (.ifCond .lt 14, 3) := by decide +kernel
theorem dX9_in_6 : decode cX9_in 6 = .ok (.lload_n 0, 1) := by decide +kernel
theorem dX9_in_7 : decode cX9_in 7 = .ok (.lload 4, 2) := by decide +kernel
theorem dX9_in_9 : decode cX9_in 9 = .ok (.lcmp, 1) := by decide +kernel
theorem dX9_in_10 : decode cX9_in 10 = .ok (.ifCond .gt 7, 3) := by decide +kernel
theorem dX9_in_13 : decode cX9_in 13 = .ok (.iconst 1, 1) := by decide +kernel
theorem dX9_in_14 : decode cX9_in 14 = .ok (.goto 4, 3) := by decide +kernel
theorem dX9_in_17 : decode cX9_in 17 = .ok (.iconst 0, 1) := by decide +kernel
theorem dX9_in_18 : decode cX9_in 18 = .ok (.ireturn, 1) := by decide +kernel
theorem dX9_begin_0 : decode cX9_begin 0 = .ok (.aload_n 0, 1) := by decide +kernel
theorem dX9_begin_1 : decode cX9_begin 1 = .ok (.iload_n 1, 1) := by decide +kernel
theorem dX9_begin_2 : decode cX9_begin 2 = .ok (.putfield 85, 3) := by decide +kernel
theorem dX9_begin_5 : decode cX9_begin 5 = .ok (.aload_n 0, 1) := by decide +kernel
theorem dX9_begin_6 : decode cX9_begin 6 = .ok (.iconst 0, 1) := by decide +kernel
theorem dX9_begin_7 : decode cX9_begin 7 = .ok (.putfield 89, 3) := by decide +kernel
theorem dX9_begin_10 : decode cX9_begin 10 = .ok (.aload_n 0, 1) := by decide +kernel
theorem dX9_begin_11 : decode cX9_begin 11 = .ok (.iconst 0, 1) := by decide +kernel
theorem dX9_begin_12 : decode cX9_begin 12 = .ok (.putfield 92, 3) := by decide +kernel
theorem dX9_begin_15 : decode cX9_begin 15 = .ok (.aload_n 0, 1) := by decide +kernel
theorem dX9_begin_16 : decode cX9_begin 16 = .ok (.bipush 20, 2) := by decide +kernel
theorem dX9_begin_18 : decode cX9_begin 18 = .ok (.putfield 95, 3) := by decide +kernel
theorem dX9_begin_21 : decode cX9_begin 21 = .ok (.aload_n 0, 1) := by decide +kernel
theorem dX9_begin_22 : decode cX9_begin 22 = .ok (.iconst 0, 1) := by decide +kernel
theorem dX9_begin_23 : decode cX9_begin 23 = .ok (.putfield 98, 3) := by decide +kernel
theorem dX9_begin_26 : decode cX9_begin 26 = .ok (.iconst 0, 1) := by decide +kernel
theorem dX9_begin_27 : decode cX9_begin 27 = .ok (.istore_n 2, 1) := by decide +kernel
theorem dX9_begin_28 : decode cX9_begin 28 = .ok (.iload_n 2, 1) := by decide +kernel
theorem dX9_begin_29 : decode cX9_begin 29 = .ok (.bipush 6, 2) := by decide +kernel
theorem dX9_begin_31 : decode cX9_begin 31 = .ok (.if_icmp .ge 16, 3) := by decide +kernel
theorem dX9_begin_34 : decode cX9_begin 34 = .ok (.aload_n 0, 1) := by decide +kernel
theorem dX9_begin_35 : decode cX9_begin 35 = .ok (.getfield 7, 3) := by decide +kernel
theorem dX9_begin_38 : decode cX9_begin 38 = .ok (.iload_n 2, 1) := by decide +kernel
theorem dX9_begin_39 : decode cX9_begin 39 = .ok (.iconst 0, 1) := by decide +kernel
theorem dX9_begin_40 : decode cX9_begin 40 = .ok (.iastore, 1) := by decide +kernel
theorem dX9_begin_41 : decode cX9_begin 41 = .ok (.iinc 2 1, 3) := by decide +kernel
theorem dX9_begin_44 : decode cX9_begin 44 = .ok (.goto (-16), 3) := by decide +kernel
theorem dX9_begin_47 : decode cX9_begin 47 = .ok (.return_, 1) := by decide +kernel
theorem dX9_isFact_0 : decode cX9_isFact 0 = .ok (.iload_n 1, 1) := by decide +kernel
theorem dX9_isFact_1 : decode cX9_isFact 1 = .ok (.i2l, 1) := by decide +kernel
theorem dX9_isFact_2 : decode cX9_isFact 2 = .ok (.lconst 0, 1) := by decide +kernel
theorem dX9_isFact_3 : decode cX9_isFact 3 = .ok (.aload_n 0, 1) := by decide +kernel
theorem dX9_isFact_4 : decode cX9_isFact 4 = .ok (.getfield 85, 3) := by decide +kernel
theorem dX9_isFact_7 : decode cX9_isFact 7 = .ok (.iconst 1, 1) := by decide +kernel
theorem dX9_isFact_8 : decode cX9_isFact 8 = .ok (.isub, 1) := by decide +kernel
theorem dX9_isFact_9 : decode cX9_isFact 9 = .ok (.i2l, 1) := by decide +kernel
theorem dX9_isFact_10 : decode cX9_isFact 10 = .ok (.invokestatic 101, 3) := by decide +kernel
theorem dX9_isFact_13 : decode cX9_isFact 13 = .ok (.ireturn, 1) := by decide +kernel
theorem dX9_isGuest_0 : decode cX9_isGuest 0 = .ok (.iload_n 0, 1) := by decide +kernel
theorem dX9_isGuest_1 : decode cX9_isGuest 1 = .ok (.i2l, 1) := by decide +kernel
theorem dX9_isGuest_2 : decode cX9_isGuest 2 = .ok (.lconst 0, 1) := by decide +kernel
theorem dX9_isGuest_3 : decode cX9_isGuest 3 = .ok (.ldc2_w 105, 3) := by decide +kernel
theorem dX9_isGuest_6 : decode cX9_isGuest 6 = .ok (.invokestatic 101, 3) := by decide +kernel
theorem dX9_isGuest_9 : decode cX9_isGuest 9 = .ok (.ireturn, 1) := by decide +kernel
theorem dX9_isRow_0 : decode cX9_isRow 0 = .ok (.iload_n 1, 1) := by decide +kernel
theorem dX9_isRow_1 : decode cX9_isRow 1 = .ok (.i2l, 1) := by decide +kernel
theorem dX9_isRow_2 : decode cX9_isRow 2 = .ok (.lconst 0, 1) := by decide +kernel
theorem dX9_isRow_3 : decode cX9_isRow 3 = .ok (.aload_n 0, 1) := by decide +kernel
theorem dX9_isRow_4 : decode cX9_isRow 4 = .ok (.getfield 92, 3) := by decide +kernel
theorem dX9_isRow_7 : decode cX9_isRow 7 = .ok (.iconst 1, 1) := by decide +kernel
theorem dX9_isRow_8 : decode cX9_isRow 8 = .ok (.isub, 1) := by decide +kernel
theorem dX9_isRow_9 : decode cX9_isRow 9 = .ok (.i2l, 1) := by decide +kernel
theorem dX9_isRow_10 : decode cX9_isRow 10 = .ok (.invokestatic 101, 3) := by decide +kernel
theorem dX9_isRow_13 : decode cX9_isRow 13 = .ok (.ireturn, 1) := by decide +kernel
theorem dX9_facts_0 : decode cX9_facts 0 = .ok (.iload_n 1, 1) := by decide +kernel
theorem dX9_facts_1 : decode cX9_facts 1 = .ok (.i2l, 1) := by decide +kernel
theorem dX9_facts_2 : decode cX9_facts 2 = .ok (.lconst 1, 1) := by decide +kernel
theorem dX9_facts_3 : decode cX9_facts 3 = .ok (.ldc2_w 107, 3) := by decide +kernel
theorem dX9_facts_6 : decode cX9_facts 6 = .ok (.invokestatic 101, 3) := by decide +kernel
theorem dX9_facts_9 : decode cX9_facts 9 = .ok (.ifCond .ne 6, 3) := by decide +kernel
theorem dX9_facts_12 : decode cX9_facts 12 = .ok (.bipush (-2), 2) := by decide +kernel
theorem dX9_facts_14 : decode cX9_facts 14 = .ok (.ireturn, 1) := by decide +kernel
theorem dX9_facts_15 : decode cX9_facts 15 = .ok (.aload_n 0, 1) := by decide +kernel
theorem dX9_facts_16 : decode cX9_facts 16 = .ok (.getfield 85, 3) := by decide +kernel
theorem dX9_facts_19 : decode cX9_facts 19 = .ok (.istore_n 2, 1) := by decide +kernel
theorem dX9_facts_20 : decode cX9_facts 20 = .ok (.aload_n 0, 1) := by decide +kernel
theorem dX9_facts_21 : decode cX9_facts 21 = .ok (.iload_n 1, 1) := by decide +kernel
theorem dX9_facts_22 : decode cX9_facts 22 = .ok (.invokevirtual 81, 3) := by decide +kernel
theorem dX9_facts_25 : decode cX9_facts 25 = .ok (.iload_n 2, 1) := by decide +kernel
theorem dX9_facts_26 : decode cX9_facts 26 = .ok (.ireturn, 1) := by decide +kernel
theorem dX9_fact_0 : decode cX9_fact 0 = .ok (.aload_n 0, 1) := by decide +kernel
theorem dX9_fact_1 : decode cX9_fact 1 = .ok (.iload_n 1, 1) := by decide +kernel
theorem dX9_fact_2 : decode cX9_fact 2 = .ok (.invokevirtual 109, 3) := by decide +kernel
theorem dX9_fact_5 : decode cX9_fact 5 = .ok (.ifCond .ne 5, 3) := by decide +kernel
theorem dX9_fact_8 : decode cX9_fact 8 = .ok (.iconst (-1), 1) := by decide +kernel
theorem dX9_fact_9 : decode cX9_fact 9 = .ok (.ireturn, 1) := by decide +kernel
theorem dX9_fact_10 : decode cX9_fact 10 = .ok (.aload_n 0, 1) := by decide +kernel
theorem dX9_fact_11 : decode cX9_fact 11 = .ok (.iload_n 2, 1) := by decide +kernel
theorem dX9_fact_12 : decode cX9_fact 12 = .ok (.ifCond .eq 14, 3) := by decide +kernel
theorem dX9_fact_15 : decode cX9_fact 15 = .ok (.aload_n 0, 1) := by decide +kernel
theorem dX9_fact_16 : decode cX9_fact 16 = .ok (.getfield 89, 3) := by decide +kernel
theorem dX9_fact_19 : decode cX9_fact 19 = .ok (.iconst 1, 1) := by decide +kernel
theorem dX9_fact_20 : decode cX9_fact 20 = .ok (.iload_n 1, 1) := by decide +kernel
theorem dX9_fact_21 : decode cX9_fact 21 = .ok (.ishl, 1) := by decide +kernel
theorem dX9_fact_22 : decode cX9_fact 22 = .ok (.ior, 1) := by decide +kernel
theorem dX9_fact_23 : decode cX9_fact 23 = .ok (.goto 13, 3) := by decide +kernel
theorem dX9_fact_26 : decode cX9_fact 26 = .ok (.aload_n 0, 1) := by decide +kernel
theorem dX9_fact_27 : decode cX9_fact 27 = .ok (.getfield 89, 3) := by decide +kernel
theorem dX9_fact_30 : decode cX9_fact 30 = .ok (.iconst 1, 1) := by decide +kernel
theorem dX9_fact_31 : decode cX9_fact 31 = .ok (.iload_n 1, 1) := by decide +kernel
theorem dX9_fact_32 : decode cX9_fact 32 = .ok (.ishl, 1) := by decide +kernel
theorem dX9_fact_33 : decode cX9_fact 33 = .ok (.iconst (-1), 1) := by decide +kernel
theorem dX9_fact_34 : decode cX9_fact 34 = .ok (.ixor, 1) := by decide +kernel
theorem dX9_fact_35 : decode cX9_fact 35 = .ok (.iand, 1) := by decide +kernel
theorem dX9_fact_36 : decode cX9_fact 36 = .ok (.putfield 89, 3) := by decide +kernel
theorem dX9_fact_39 : decode cX9_fact 39 = .ok (.aload_n 0, 1) := by decide +kernel
theorem dX9_fact_40 : decode cX9_fact 40 = .ok (.getfield 89, 3) := by decide +kernel
theorem dX9_fact_43 : decode cX9_fact 43 = .ok (.ireturn, 1) := by decide +kernel
theorem dX9_temper_0 : decode cX9_temper 0 = .ok (.iload_n 1, 1) := by decide +kernel
theorem dX9_temper_1 : decode cX9_temper 1 = .ok (.invokestatic 113, 3) := by decide +kernel
theorem dX9_temper_4 : decode cX9_temper 4 = .ok (.ifCond .ne 5, 3) := by decide +kernel
theorem dX9_temper_7 : decode cX9_temper 7 = .ok (.iconst (-1), 1) := by decide +kernel
theorem dX9_temper_8 : decode cX9_temper 8 = .ok (.ireturn, 1) := by decide +kernel
theorem dX9_temper_9 : decode cX9_temper 9 = .ok (.iload_n 2, 1) := by decide +kernel
theorem dX9_temper_10 : decode cX9_temper 10 = .ok (.i2l, 1) := by decide +kernel
theorem dX9_temper_11 : decode cX9_temper 11 = .ok (.lconst 0, 1) := by decide +kernel
theorem dX9_temper_12 : decode cX9_temper 12 = .ok (.ldc2_w 116, 3) := by decide +kernel
theorem dX9_temper_15 : decode cX9_temper 15 = .ok (.invokestatic 101, 3) := by decide +kernel
theorem dX9_temper_18 : decode cX9_temper 18 = .ok (.ifCond .ne 6, 3) := by decide +kernel
theorem dX9_temper_21 : decode cX9_temper 21 = .ok (.bipush (-2), 2) := by decide +kernel
theorem dX9_temper_23 : decode cX9_temper 23 = .ok (.ireturn, 1) := by decide +kernel
theorem dX9_temper_24 : decode cX9_temper 24 = .ok (.aload_n 0, 1) := by decide +kernel
theorem dX9_temper_25 : decode cX9_temper 25 = .ok (.getfield 7, 3) := by decide +kernel
theorem dX9_temper_28 : decode cX9_temper 28 = .ok (.iload_n 1, 1) := by decide +kernel
theorem dX9_temper_29 : decode cX9_temper 29 = .ok (.iaload, 1) := by decide +kernel
theorem dX9_temper_30 : decode cX9_temper 30 = .ok (.istore_n 3, 1) := by decide +kernel
theorem dX9_temper_31 : decode cX9_temper 31 = .ok (.aload_n 0, 1) := by decide +kernel
theorem dX9_temper_32 : decode cX9_temper 32 = .ok (.getfield 7, 3) := by decide +kernel
theorem dX9_temper_35 : decode cX9_temper 35 = .ok (.iload_n 1, 1) := by decide +kernel
theorem dX9_temper_36 : decode cX9_temper 36 = .ok (.iload_n 2, 1) := by decide +kernel
theorem dX9_temper_37 : decode cX9_temper 37 = .ok (.iastore, 1) := by decide +kernel
theorem dX9_temper_38 : decode cX9_temper 38 = .ok (.iload_n 3, 1) := by decide +kernel
theorem dX9_temper_39 : decode cX9_temper 39 = .ok (.ireturn, 1) := by decide +kernel
theorem dX9_width_0 : decode cX9_width 0 = .ok (.iload_n 1, 1) := by decide +kernel
theorem dX9_width_1 : decode cX9_width 1 = .ok (.i2l, 1) := by decide +kernel
theorem dX9_width_2 : decode cX9_width 2 = .ok (.lconst 0, 1) := by decide +kernel
theorem dX9_width_3 : decode cX9_width 3 = .ok (.ldc2_w 118, 3) := by decide +kernel
theorem dX9_width_6 : decode cX9_width 6 = .ok (.invokestatic 101, 3) := by decide +kernel
theorem dX9_width_9 : decode cX9_width 9 = .ok (.ifCond .ne 6, 3) := by decide +kernel
theorem dX9_width_12 : decode cX9_width 12 = .ok (.bipush (-2), 2) := by decide +kernel
theorem dX9_width_14 : decode cX9_width 14 = .ok (.ireturn, 1) := by decide +kernel
theorem dX9_width_15 : decode cX9_width 15 = .ok (.aload_n 0, 1) := by decide +kernel
theorem dX9_width_16 : decode cX9_width 16 = .ok (.getfield 95, 3) := by decide +kernel
theorem dX9_width_19 : decode cX9_width 19 = .ok (.istore_n 2, 1) := by decide +kernel
theorem dX9_width_20 : decode cX9_width 20 = .ok (.aload_n 0, 1) := by decide +kernel
theorem dX9_width_21 : decode cX9_width 21 = .ok (.iload_n 1, 1) := by decide +kernel
theorem dX9_width_22 : decode cX9_width 22 = .ok (.putfield 95, 3) := by decide +kernel
theorem dX9_width_25 : decode cX9_width 25 = .ok (.iload_n 2, 1) := by decide +kernel
theorem dX9_width_26 : decode cX9_width 26 = .ok (.ireturn, 1) := by decide +kernel
theorem dX9_say_0 : decode cX9_say 0 = .ok (.iload_n 1, 1) := by decide +kernel
theorem dX9_say_1 : decode cX9_say 1 = .ok (.i2l, 1) := by decide +kernel
theorem dX9_say_2 : decode cX9_say 2 = .ok (.ldc2_w 120, 3) := by decide +kernel
theorem dX9_say_5 : decode cX9_say 5 = .ok (.ldc2_w 122, 3) := by decide +kernel
theorem dX9_say_8 : decode cX9_say 8 = .ok (.invokestatic 101, 3) := by decide +kernel
theorem dX9_say_11 : decode cX9_say 11 = .ok (.ifCond .ne 6, 3) := by decide +kernel
theorem dX9_say_14 : decode cX9_say 14 = .ok (.bipush (-2), 2) := by decide +kernel
theorem dX9_say_16 : decode cX9_say 16 = .ok (.ireturn, 1) := by decide +kernel
theorem dX9_say_17 : decode cX9_say 17 = .ok (.aload_n 0, 1) := by decide +kernel
theorem dX9_say_18 : decode cX9_say 18 = .ok (.getfield 124, 3) := by decide +kernel
theorem dX9_say_21 : decode cX9_say 21 = .ok (.bipush 60, 2) := by decide +kernel
theorem dX9_say_23 : decode cX9_say 23 = .ok (.if_icmp .ne 6, 3) := by decide +kernel
theorem dX9_say_26 : decode cX9_say 26 = .ok (.bipush (-4), 2) := by decide +kernel
theorem dX9_say_28 : decode cX9_say 28 = .ok (.ireturn, 1) := by decide +kernel
theorem dX9_say_29 : decode cX9_say 29 = .ok (.aload_n 0, 1) := by decide +kernel
theorem dX9_say_30 : decode cX9_say 30 = .ok (.getfield 28, 3) := by decide +kernel
theorem dX9_say_33 : decode cX9_say 33 = .ok (.aload_n 0, 1) := by decide +kernel
theorem dX9_say_34 : decode cX9_say 34 = .ok (.getfield 124, 3) := by decide +kernel
theorem dX9_say_37 : decode cX9_say 37 = .ok (.iload_n 1, 1) := by decide +kernel
theorem dX9_say_38 : decode cX9_say 38 = .ok (.iastore, 1) := by decide +kernel
theorem dX9_say_39 : decode cX9_say 39 = .ok (.aload_n 0, 1) := by decide +kernel
theorem dX9_say_40 : decode cX9_say 40 = .ok (.dup, 1) := by decide +kernel
theorem dX9_say_41 : decode cX9_say 41 = .ok (.getfield 124, 3) := by decide +kernel
theorem dX9_say_44 : decode cX9_say 44 = .ok (.iconst 1, 1) := by decide +kernel
theorem dX9_say_45 : decode cX9_say 45 = .ok (.iadd, 1) := by decide +kernel
theorem dX9_say_46 : decode cX9_say 46 = .ok (.putfield 124, 3) := by decide +kernel
theorem dX9_say_49 : decode cX9_say 49 = .ok (.aload_n 0, 1) := by decide +kernel
theorem dX9_say_50 : decode cX9_say 50 = .ok (.getfield 124, 3) := by decide +kernel
theorem dX9_say_53 : decode cX9_say 53 = .ok (.ireturn, 1) := by decide +kernel
theorem dX9_wipe_0 : decode cX9_wipe 0 = .ok (.aload_n 0, 1) := by decide +kernel
theorem dX9_wipe_1 : decode cX9_wipe 1 = .ok (.getfield 124, 3) := by decide +kernel
theorem dX9_wipe_4 : decode cX9_wipe 4 = .ok (.istore_n 1, 1) := by decide +kernel
theorem dX9_wipe_5 : decode cX9_wipe 5 = .ok (.aload_n 0, 1) := by decide +kernel
theorem dX9_wipe_6 : decode cX9_wipe 6 = .ok (.iconst 0, 1) := by decide +kernel
theorem dX9_wipe_7 : decode cX9_wipe 7 = .ok (.putfield 124, 3) := by decide +kernel
theorem dX9_wipe_10 : decode cX9_wipe 10 = .ok (.iload_n 1, 1) := by decide +kernel
theorem dX9_wipe_11 : decode cX9_wipe 11 = .ok (.ireturn, 1) := by decide +kernel
theorem dX9_shortRemark_0 : decode cX9_shortRemark 0 = .ok (.iload_n 0, 1) := by decide +kernel
theorem dX9_shortRemark_1 : decode cX9_shortRemark 1 = .ok (.bipush 46, 2) := by decide +kernel
theorem dX9_shortRemark_3 : decode cX9_shortRemark 3 = .ok (.if_icmp .ne 7, 3) := by decide +kernel
theorem dX9_shortRemark_6 : decode cX9_shortRemark 6 = .ok (.iconst 1, 1) := by decide +kernel
theorem dX9_shortRemark_7 : decode cX9_shortRemark 7 = .ok (.goto 25, 3) := by decide +kernel
theorem dX9_shortRemark_10 : decode cX9_shortRemark 10 = .ok (.iload_n 0, 1) := by decide +kernel
theorem dX9_shortRemark_11 : decode cX9_shortRemark 11 = .ok (.bipush 63, 2) := by decide +kernel
theorem dX9_shortRemark_13 : decode cX9_shortRemark 13 = .ok (.if_icmp .ne 7, 3) := by decide +kernel
theorem dX9_shortRemark_16 : decode cX9_shortRemark 16 = .ok (.iconst 2, 1) := by decide +kernel
theorem dX9_shortRemark_17 : decode cX9_shortRemark 17 = .ok (.goto 15, 3) := by decide +kernel
theorem dX9_shortRemark_20 : decode cX9_shortRemark 20 = .ok (.iload_n 0, 1) := by decide +kernel
theorem dX9_shortRemark_21 : decode cX9_shortRemark 21 = .ok (.bipush 33, 2) := by decide +kernel
theorem dX9_shortRemark_23 : decode cX9_shortRemark 23 = .ok (.if_icmp .ne 7, 3) := by decide +kernel
theorem dX9_shortRemark_26 : decode cX9_shortRemark 26 = .ok (.iconst 3, 1) := by decide +kernel
theorem dX9_shortRemark_27 : decode cX9_shortRemark 27 = .ok (.goto 5, 3) := by decide +kernel
theorem dX9_shortRemark_30 : decode cX9_shortRemark 30 = .ok (.bipush (-6), 2) := by decide +kernel
theorem dX9_shortRemark_32 : decode cX9_shortRemark 32 = .ok (.ireturn, 1) := by decide +kernel
theorem dX9_faultOfEvening_0 : decode cX9_faultOfEvening 0 = .ok (.aload_n 0, 1) := by decide +kernel
theorem dX9_faultOfEvening_1 : decode cX9_faultOfEvening 1 = .ok (.iconst 0, 1) := by decide +kernel
theorem dX9_faultOfEvening_2 : decode cX9_faultOfEvening 2 = .ok (.putfield 127, 3) := by decide +kernel
theorem dX9_faultOfEvening_5 : decode cX9_faultOfEvening 5 = .ok (.iconst 0, 1) := by decide +kernel
theorem dX9_faultOfEvening_6 : decode cX9_faultOfEvening 6 = .ok (.istore_n 1, 1) := by decide +kernel
theorem dX9_faultOfEvening_7 : decode cX9_faultOfEvening 7 = .ok (.iconst 0, 1) := by decide +kernel
theorem dX9_faultOfEvening_8 : decode cX9_faultOfEvening 8 = .ok (.istore_n 2, 1) := by decide +kernel
theorem dX9_faultOfEvening_9 : decode cX9_faultOfEvening 9 = .ok (.iload_n 2, 1) := by decide +kernel
theorem dX9_faultOfEvening_10 : decode cX9_faultOfEvening 10 = .ok (.aload_n 0, 1) := by decide +kernel
theorem dX9_faultOfEvening_11 : decode cX9_faultOfEvening 11 = .ok (.getfield 124, 3) := by decide +kernel
theorem dX9_faultOfEvening_14 : decode cX9_faultOfEvening 14 = .ok (.if_icmp .ge 235, 3) := by decide +kernel
theorem dX9_faultOfEvening_17 : decode cX9_faultOfEvening 17 = .ok (.aload_n 0, 1) := by decide +kernel
theorem dX9_faultOfEvening_18 : decode cX9_faultOfEvening 18 = .ok (.getfield 28, 3) := by decide +kernel
theorem dX9_faultOfEvening_21 : decode cX9_faultOfEvening 21 = .ok (.iload_n 2, 1) := by decide +kernel
theorem dX9_faultOfEvening_22 : decode cX9_faultOfEvening 22 = .ok (.iaload, 1) := by decide +kernel
theorem dX9_faultOfEvening_23 : decode cX9_faultOfEvening 23 = .ok (.istore_n 3, 1) := by decide +kernel
theorem dX9_faultOfEvening_24 : decode cX9_faultOfEvening 24 = .ok (.iload_n 1, 1) := by decide +kernel
theorem dX9_faultOfEvening_25 : decode cX9_faultOfEvening 25 = .ok (.ifCond .ne 14, 3) := by decide +kernel
theorem dX9_faultOfEvening_28 : decode cX9_faultOfEvening 28 = .ok (.iload_n 3, 1) := by decide +kernel
theorem dX9_faultOfEvening_29 : decode cX9_faultOfEvening 29 = .ok (.invokestatic 130, 3) := by decide +kernel
theorem dX9_faultOfEvening_32 : decode cX9_faultOfEvening 32 = .ok (.ifCond .le 7, 3) := by decide +kernel
theorem dX9_faultOfEvening_35 : decode cX9_faultOfEvening 35 = .ok (.iconst 1, 1) := by decide +kernel
theorem dX9_faultOfEvening_36 : decode cX9_faultOfEvening 36 = .ok (.goto 4, 3) := by decide +kernel
theorem dX9_faultOfEvening_39 : decode cX9_faultOfEvening 39 = .ok (.iconst 0, 1) := by decide +kernel
theorem dX9_faultOfEvening_40 : decode cX9_faultOfEvening 40 = .ok (.istore 4, 2) := by decide +kernel
theorem dX9_faultOfEvening_42 : decode cX9_faultOfEvening 42 = .ok (.iload 4, 2) := by decide +kernel
theorem dX9_faultOfEvening_44 : decode cX9_faultOfEvening 44 = .ok (.ifCond .ne 51, 3) := by decide +kernel
theorem dX9_faultOfEvening_47 : decode cX9_faultOfEvening 47 = .ok (.iload_n 1, 1) := by decide +kernel
theorem dX9_faultOfEvening_48 : decode cX9_faultOfEvening 48 = .ok (.ifCond .ne 16, 3) := by decide +kernel
theorem dX9_faultOfEvening_51 : decode cX9_faultOfEvening 51 = .ok (.iload_n 3, 1) := by decide +kernel
theorem dX9_faultOfEvening_52 : decode cX9_faultOfEvening 52 = .ok (.bipush 65, 2) := by decide +kernel
theorem dX9_faultOfEvening_54 : decode cX9_faultOfEvening 54 = .ok (.isub, 1) := by decide +kernel
theorem dX9_faultOfEvening_55 : decode cX9_faultOfEvening 55 = .ok (.invokestatic 113, 3) := by decide +kernel
theorem dX9_faultOfEvening_58 : decode cX9_faultOfEvening 58 = .ok (.ifCond .eq 41, 3) := by decide +kernel
theorem dX9_faultOfEvening_61 : decode cX9_faultOfEvening 61 = .ok (.goto 34, 3) := by decide +kernel
theorem dX9_faultOfEvening_64 : decode cX9_faultOfEvening 64 = .ok (.iload_n 1, 1) := by decide +kernel
theorem dX9_faultOfEvening_65 : decode cX9_faultOfEvening 65 = .ok (.iconst 1, 1) := by decide +kernel
theorem dX9_faultOfEvening_66 : decode cX9_faultOfEvening 66 = .ok (.if_icmp .ne 17, 3) := by decide +kernel
theorem dX9_faultOfEvening_69 : decode cX9_faultOfEvening 69 = .ok (.aload_n 0, 1) := by decide +kernel
theorem dX9_faultOfEvening_70 : decode cX9_faultOfEvening 70 = .ok (.iload_n 3, 1) := by decide +kernel
theorem dX9_faultOfEvening_71 : decode cX9_faultOfEvening 71 = .ok (.bipush 97, 2) := by decide +kernel
theorem dX9_faultOfEvening_73 : decode cX9_faultOfEvening 73 = .ok (.isub, 1) := by decide +kernel
theorem dX9_faultOfEvening_74 : decode cX9_faultOfEvening 74 = .ok (.invokevirtual 109, 3) := by decide +kernel
theorem dX9_faultOfEvening_77 : decode cX9_faultOfEvening 77 = .ok (.ifCond .eq 22, 3) := by decide +kernel
theorem dX9_faultOfEvening_80 : decode cX9_faultOfEvening 80 = .ok (.goto 15, 3) := by decide +kernel
theorem dX9_faultOfEvening_83 : decode cX9_faultOfEvening 83 = .ok (.iload_n 3, 1) := by decide +kernel
theorem dX9_faultOfEvening_84 : decode cX9_faultOfEvening 84 = .ok (.bipush 43, 2) := by decide +kernel
theorem dX9_faultOfEvening_86 : decode cX9_faultOfEvening 86 = .ok (.if_icmp .eq 9, 3) := by decide +kernel
theorem dX9_faultOfEvening_89 : decode cX9_faultOfEvening 89 = .ok (.iload_n 3, 1) := by decide +kernel
theorem dX9_faultOfEvening_90 : decode cX9_faultOfEvening 90 = .ok (.bipush 45, 2) := by decide +kernel
theorem dX9_faultOfEvening_92 : decode cX9_faultOfEvening 92 = .ok (.if_icmp .ne 7, 3) := by decide +kernel
theorem dX9_faultOfEvening_95 : decode cX9_faultOfEvening 95 = .ok (.iconst 1, 1) := by decide +kernel
theorem dX9_faultOfEvening_96 : decode cX9_faultOfEvening 96 = .ok (.goto 4, 3) := by decide +kernel
theorem dX9_faultOfEvening_99 : decode cX9_faultOfEvening 99 = .ok (.iconst 0, 1) := by decide +kernel
theorem dX9_faultOfEvening_100 : decode cX9_faultOfEvening 100 = .ok (.istore 5, 2) := by decide +kernel
theorem dX9_faultOfEvening_102 : decode cX9_faultOfEvening 102 = .ok (.iload 5, 2) := by decide +kernel
theorem dX9_faultOfEvening_104 : decode cX9_faultOfEvening 104 = .ok (.ifCond .ne 5, 3) := by decide +kernel
theorem dX9_faultOfEvening_107 : decode cX9_faultOfEvening 107 = .ok (.iload_n 2, 1) := by decide +kernel
theorem dX9_faultOfEvening_108 : decode cX9_faultOfEvening 108 = .ok (.ireturn, 1) := by decide +kernel
theorem dX9_faultOfEvening_109 : decode cX9_faultOfEvening 109 = .ok (.iload 4, 2) := by decide +kernel
theorem dX9_faultOfEvening_111 : decode cX9_faultOfEvening 111 = .ok (.ifCond .eq 19, 3) := by decide +kernel
theorem dX9_faultOfEvening_114 : decode cX9_faultOfEvening 114 = .ok (.aload_n 0, 1) := by decide +kernel
theorem dX9_faultOfEvening_115 : decode cX9_faultOfEvening 115 = .ok (.getfield 31, 3) := by decide +kernel
theorem dX9_faultOfEvening_118 : decode cX9_faultOfEvening 118 = .ok (.aload_n 0, 1) := by decide +kernel
theorem dX9_faultOfEvening_119 : decode cX9_faultOfEvening 119 = .ok (.getfield 127, 3) := by decide +kernel
theorem dX9_faultOfEvening_122 : decode cX9_faultOfEvening 122 = .ok (.iload_n 3, 1) := by decide +kernel
theorem dX9_faultOfEvening_123 : decode cX9_faultOfEvening 123 = .ok (.invokestatic 130, 3) := by decide +kernel
theorem dX9_faultOfEvening_126 : decode cX9_faultOfEvening 126 = .ok (.iastore, 1) := by decide +kernel
theorem dX9_faultOfEvening_127 : decode cX9_faultOfEvening 127 = .ok (.goto 74, 3) := by decide +kernel
theorem dX9_faultOfEvening_130 : decode cX9_faultOfEvening 130 = .ok (.iload_n 1, 1) := by decide +kernel
theorem dX9_faultOfEvening_131 : decode cX9_faultOfEvening 131 = .ok (.ifCond .ne 19, 3) := by decide +kernel
theorem dX9_faultOfEvening_134 : decode cX9_faultOfEvening 134 = .ok (.aload_n 0, 1) := by decide +kernel
theorem dX9_faultOfEvening_135 : decode cX9_faultOfEvening 135 = .ok (.getfield 34, 3) := by decide +kernel
theorem dX9_faultOfEvening_138 : decode cX9_faultOfEvening 138 = .ok (.aload_n 0, 1) := by decide +kernel
theorem dX9_faultOfEvening_139 : decode cX9_faultOfEvening 139 = .ok (.getfield 127, 3) := by decide +kernel
theorem dX9_faultOfEvening_142 : decode cX9_faultOfEvening 142 = .ok (.iload_n 3, 1) := by decide +kernel
theorem dX9_faultOfEvening_143 : decode cX9_faultOfEvening 143 = .ok (.bipush 65, 2) := by decide +kernel
theorem dX9_faultOfEvening_145 : decode cX9_faultOfEvening 145 = .ok (.isub, 1) := by decide +kernel
theorem dX9_faultOfEvening_146 : decode cX9_faultOfEvening 146 = .ok (.iastore, 1) := by decide +kernel
theorem dX9_faultOfEvening_147 : decode cX9_faultOfEvening 147 = .ok (.goto 54, 3) := by decide +kernel
theorem dX9_faultOfEvening_150 : decode cX9_faultOfEvening 150 = .ok (.iload_n 1, 1) := by decide +kernel
theorem dX9_faultOfEvening_151 : decode cX9_faultOfEvening 151 = .ok (.iconst 1, 1) := by decide +kernel
theorem dX9_faultOfEvening_152 : decode cX9_faultOfEvening 152 = .ok (.if_icmp .ne 19, 3) := by decide +kernel
theorem dX9_faultOfEvening_155 : decode cX9_faultOfEvening 155 = .ok (.aload_n 0, 1) := by decide +kernel
theorem dX9_faultOfEvening_156 : decode cX9_faultOfEvening 156 = .ok (.getfield 37, 3) := by decide +kernel
theorem dX9_faultOfEvening_159 : decode cX9_faultOfEvening 159 = .ok (.aload_n 0, 1) := by decide +kernel
theorem dX9_faultOfEvening_160 : decode cX9_faultOfEvening 160 = .ok (.getfield 127, 3) := by decide +kernel
theorem dX9_faultOfEvening_163 : decode cX9_faultOfEvening 163 = .ok (.iload_n 3, 1) := by decide +kernel
theorem dX9_faultOfEvening_164 : decode cX9_faultOfEvening 164 = .ok (.bipush 97, 2) := by decide +kernel
theorem dX9_faultOfEvening_166 : decode cX9_faultOfEvening 166 = .ok (.isub, 1) := by decide +kernel
theorem dX9_faultOfEvening_167 : decode cX9_faultOfEvening 167 = .ok (.iastore, 1) := by decide +kernel
theorem dX9_faultOfEvening_168 : decode cX9_faultOfEvening 168 = .ok (.goto 33, 3) := by decide +kernel
theorem dX9_faultOfEvening_171 : decode cX9_faultOfEvening 171 = .ok (.aload_n 0, 1) := by decide +kernel
theorem dX9_faultOfEvening_172 : decode cX9_faultOfEvening 172 = .ok (.getfield 31, 3) := by decide +kernel
theorem dX9_faultOfEvening_175 : decode cX9_faultOfEvening 175 = .ok (.aload_n 0, 1) := by decide +kernel
theorem dX9_faultOfEvening_176 : decode cX9_faultOfEvening 176 = .ok (.getfield 127, 3) := by decide +kernel
theorem dX9_faultOfEvening_179 : decode cX9_faultOfEvening 179 = .ok (.iconst 0, 1) := by decide +kernel
theorem dX9_faultOfEvening_180 : decode cX9_faultOfEvening 180 = .ok (.iastore, 1) := by decide +kernel
theorem dX9_faultOfEvening_181 : decode cX9_faultOfEvening 181 = .ok (.aload_n 0, 1) := by decide +kernel
theorem dX9_faultOfEvening_182 : decode cX9_faultOfEvening 182 = .ok (.getfield 40, 3) := by decide +kernel
theorem dX9_faultOfEvening_185 : decode cX9_faultOfEvening 185 = .ok (.aload_n 0, 1) := by decide +kernel
theorem dX9_faultOfEvening_186 : decode cX9_faultOfEvening 186 = .ok (.getfield 127, 3) := by decide +kernel
theorem dX9_faultOfEvening_189 : decode cX9_faultOfEvening 189 = .ok (.iload_n 3, 1) := by decide +kernel
theorem dX9_faultOfEvening_190 : decode cX9_faultOfEvening 190 = .ok (.bipush 43, 2) := by decide +kernel
theorem dX9_faultOfEvening_192 : decode cX9_faultOfEvening 192 = .ok (.if_icmp .ne 7, 3) := by decide +kernel
theorem dX9_faultOfEvening_195 : decode cX9_faultOfEvening 195 = .ok (.iconst 1, 1) := by decide +kernel
theorem dX9_faultOfEvening_196 : decode cX9_faultOfEvening 196 = .ok (.goto 4, 3) := by decide +kernel
theorem dX9_faultOfEvening_199 : decode cX9_faultOfEvening 199 = .ok (.iconst 0, 1) := by decide +kernel
theorem dX9_faultOfEvening_200 : decode cX9_faultOfEvening 200 = .ok (.iastore, 1) := by decide +kernel
theorem dX9_faultOfEvening_201 : decode cX9_faultOfEvening 201 = .ok (.aload_n 0, 1) := by decide +kernel
theorem dX9_faultOfEvening_202 : decode cX9_faultOfEvening 202 = .ok (.dup, 1) := by decide +kernel
theorem dX9_faultOfEvening_203 : decode cX9_faultOfEvening 203 = .ok (.getfield 127, 3) := by decide +kernel
theorem dX9_faultOfEvening_206 : decode cX9_faultOfEvening 206 = .ok (.iload 4, 2) := by decide +kernel
theorem dX9_faultOfEvening_208 : decode cX9_faultOfEvening 208 = .ok (.ifCond .ne 8, 3) := by decide +kernel
theorem dX9_faultOfEvening_211 : decode cX9_faultOfEvening 211 = .ok (.iload_n 1, 1) := by decide +kernel
theorem dX9_faultOfEvening_212 : decode cX9_faultOfEvening 212 = .ok (.iconst 2, 1) := by decide +kernel
theorem dX9_faultOfEvening_213 : decode cX9_faultOfEvening 213 = .ok (.if_icmp .ne 7, 3) := by decide +kernel
theorem dX9_faultOfEvening_216 : decode cX9_faultOfEvening 216 = .ok (.iconst 1, 1) := by decide +kernel
theorem dX9_faultOfEvening_217 : decode cX9_faultOfEvening 217 = .ok (.goto 4, 3) := by decide +kernel
theorem dX9_faultOfEvening_220 : decode cX9_faultOfEvening 220 = .ok (.iconst 0, 1) := by decide +kernel
theorem dX9_faultOfEvening_221 : decode cX9_faultOfEvening 221 = .ok (.iadd, 1) := by decide +kernel
theorem dX9_faultOfEvening_222 : decode cX9_faultOfEvening 222 = .ok (.putfield 127, 3) := by decide +kernel
theorem dX9_faultOfEvening_225 : decode cX9_faultOfEvening 225 = .ok (.iload 4, 2) := by decide +kernel
theorem dX9_faultOfEvening_227 : decode cX9_faultOfEvening 227 = .ok (.ifCond .ne 8, 3) := by decide +kernel
theorem dX9_faultOfEvening_230 : decode cX9_faultOfEvening 230 = .ok (.iload_n 1, 1) := by decide +kernel
theorem dX9_faultOfEvening_231 : decode cX9_faultOfEvening 231 = .ok (.iconst 2, 1) := by decide +kernel
theorem dX9_faultOfEvening_232 : decode cX9_faultOfEvening 232 = .ok (.if_icmp .ne 7, 3) := by decide +kernel
theorem dX9_faultOfEvening_235 : decode cX9_faultOfEvening 235 = .ok (.iconst 0, 1) := by decide +kernel
theorem dX9_faultOfEvening_236 : decode cX9_faultOfEvening 236 = .ok (.goto 6, 3) := by decide +kernel
theorem dX9_faultOfEvening_239 : decode cX9_faultOfEvening 239 = .ok (.iload_n 1, 1) := by decide +kernel
theorem dX9_faultOfEvening_240 : decode cX9_faultOfEvening 240 = .ok (.iconst 1, 1) := by decide +kernel
theorem dX9_faultOfEvening_241 : decode cX9_faultOfEvening 241 = .ok (.iadd, 1) := by decide +kernel
theorem dX9_faultOfEvening_242 : decode cX9_faultOfEvening 242 = .ok (.istore_n 1, 1) := by decide +kernel
theorem dX9_faultOfEvening_243 : decode cX9_faultOfEvening 243 = .ok (.iinc 2 1, 3) := by decide +kernel
theorem dX9_faultOfEvening_246 : decode cX9_faultOfEvening 246 = .ok (.goto (-237), 3) := by decide +kernel
theorem dX9_faultOfEvening_249 : decode cX9_faultOfEvening 249 = .ok (.iload_n 1, 1) := by decide +kernel
theorem dX9_faultOfEvening_250 : decode cX9_faultOfEvening 250 = .ok (.ifCond .ne 8, 3) := by decide +kernel
theorem dX9_faultOfEvening_253 : decode cX9_faultOfEvening 253 = .ok (.bipush (-6), 2) := by decide +kernel
theorem dX9_faultOfEvening_255 : decode cX9_faultOfEvening 255 = .ok (.goto 7, 3) := by decide +kernel
theorem dX9_faultOfEvening_258 : decode cX9_faultOfEvening 258 = .ok (.aload_n 0, 1) := by decide +kernel
theorem dX9_faultOfEvening_259 : decode cX9_faultOfEvening 259 = .ok (.getfield 124, 3) := by decide +kernel
theorem dX9_faultOfEvening_262 : decode cX9_faultOfEvening 262 = .ok (.ireturn, 1) := by decide +kernel
theorem dX9_faultOfPattern_0 : decode cX9_faultOfPattern 0 = .ok (.aload_n 0, 1) := by decide +kernel
theorem dX9_faultOfPattern_1 : decode cX9_faultOfPattern 1 = .ok (.iconst 0, 1) := by decide +kernel
theorem dX9_faultOfPattern_2 : decode cX9_faultOfPattern 2 = .ok (.putfield 134, 3) := by decide +kernel
theorem dX9_faultOfPattern_5 : decode cX9_faultOfPattern 5 = .ok (.iconst 0, 1) := by decide +kernel
theorem dX9_faultOfPattern_6 : decode cX9_faultOfPattern 6 = .ok (.istore_n 1, 1) := by decide +kernel
theorem dX9_faultOfPattern_7 : decode cX9_faultOfPattern 7 = .ok (.iconst 0, 1) := by decide +kernel
theorem dX9_faultOfPattern_8 : decode cX9_faultOfPattern 8 = .ok (.istore_n 2, 1) := by decide +kernel
theorem dX9_faultOfPattern_9 : decode cX9_faultOfPattern 9 = .ok (.iload_n 2, 1) := by decide +kernel
theorem dX9_faultOfPattern_10 : decode cX9_faultOfPattern 10 = .ok (.aload_n 0, 1) := by decide +kernel
theorem dX9_faultOfPattern_11 : decode cX9_faultOfPattern 11 = .ok (.getfield 124, 3) := by decide +kernel
theorem dX9_faultOfPattern_14 : decode cX9_faultOfPattern 14 = .ok (.if_icmp .ge 135, 3) := by decide +kernel
theorem dX9_faultOfPattern_17 : decode cX9_faultOfPattern 17 = .ok (.aload_n 0, 1) := by decide +kernel
theorem dX9_faultOfPattern_18 : decode cX9_faultOfPattern 18 = .ok (.getfield 28, 3) := by decide +kernel
theorem dX9_faultOfPattern_21 : decode cX9_faultOfPattern 21 = .ok (.iload_n 2, 1) := by decide +kernel
theorem dX9_faultOfPattern_22 : decode cX9_faultOfPattern 22 = .ok (.iaload, 1) := by decide +kernel
theorem dX9_faultOfPattern_23 : decode cX9_faultOfPattern 23 = .ok (.istore_n 3, 1) := by decide +kernel
theorem dX9_faultOfPattern_24 : decode cX9_faultOfPattern 24 = .ok (.iload_n 3, 1) := by decide +kernel
theorem dX9_faultOfPattern_25 : decode cX9_faultOfPattern 25 = .ok (.bipush 65, 2) := by decide +kernel
theorem dX9_faultOfPattern_27 : decode cX9_faultOfPattern 27 = .ok (.isub, 1) := by decide +kernel
theorem dX9_faultOfPattern_28 : decode cX9_faultOfPattern 28 = .ok (.invokestatic 113, 3) := by decide +kernel
theorem dX9_faultOfPattern_31 : decode cX9_faultOfPattern 31 = .ok (.istore 4, 2) := by decide +kernel
theorem dX9_faultOfPattern_33 : decode cX9_faultOfPattern 33 = .ok (.iload_n 3, 1) := by decide +kernel
theorem dX9_faultOfPattern_34 : decode cX9_faultOfPattern 34 = .ok (.bipush 42, 2) := by decide +kernel
theorem dX9_faultOfPattern_36 : decode cX9_faultOfPattern 36 = .ok (.if_icmp .ne 11, 3) := by decide +kernel
theorem dX9_faultOfPattern_39 : decode cX9_faultOfPattern 39 = .ok (.iload_n 1, 1) := by decide +kernel
theorem dX9_faultOfPattern_40 : decode cX9_faultOfPattern 40 = .ok (.ifCond .eq 7, 3) := by decide +kernel
theorem dX9_faultOfPattern_43 : decode cX9_faultOfPattern 43 = .ok (.iconst 1, 1) := by decide +kernel
theorem dX9_faultOfPattern_44 : decode cX9_faultOfPattern 44 = .ok (.goto 4, 3) := by decide +kernel
theorem dX9_faultOfPattern_47 : decode cX9_faultOfPattern 47 = .ok (.iconst 0, 1) := by decide +kernel
theorem dX9_faultOfPattern_48 : decode cX9_faultOfPattern 48 = .ok (.istore 5, 2) := by decide +kernel
theorem dX9_faultOfPattern_50 : decode cX9_faultOfPattern 50 = .ok (.iload 4, 2) := by decide +kernel
theorem dX9_faultOfPattern_52 : decode cX9_faultOfPattern 52 = .ok (.ifCond .ne 16, 3) := by decide +kernel
theorem dX9_faultOfPattern_55 : decode cX9_faultOfPattern 55 = .ok (.iload 5, 2) := by decide +kernel
theorem dX9_faultOfPattern_57 : decode cX9_faultOfPattern 57 = .ok (.ifCond .ne 11, 3) := by decide +kernel
theorem dX9_faultOfPattern_60 : decode cX9_faultOfPattern 60 = .ok (.iload_n 3, 1) := by decide +kernel
theorem dX9_faultOfPattern_61 : decode cX9_faultOfPattern 61 = .ok (.bipush 109, 2) := by decide +kernel
theorem dX9_faultOfPattern_63 : decode cX9_faultOfPattern 63 = .ok (.if_icmp .eq 5, 3) := by decide +kernel
theorem dX9_faultOfPattern_66 : decode cX9_faultOfPattern 66 = .ok (.iload_n 2, 1) := by decide +kernel
theorem dX9_faultOfPattern_67 : decode cX9_faultOfPattern 67 = .ok (.ireturn, 1) := by decide +kernel
