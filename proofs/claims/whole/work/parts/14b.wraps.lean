theorem dL_tower_0 : decode cL_tower 0 = .ok (.aload_n 2, 1) := by decide +kernel
theorem dL_tower_1 : decode cL_tower 1 = .ok (.iconst 0, 1) := by decide +kernel
theorem dL_tower_2 : decode cL_tower 2 = .ok (.aload_n 0, 1) := by decide +kernel
theorem dL_tower_3 : decode cL_tower 3 = .ok (.iload_n 1, 1) := by decide +kernel
theorem dL_tower_4 : decode cL_tower 4 = .ok (.invokevirtual 7, 3) := by decide +kernel
theorem dL_tower_7 : decode cL_tower 7 = .ok (.i2l, 1) := by decide +kernel
theorem dL_tower_8 : decode cL_tower 8 = .ok (.lastore, 1) := by decide +kernel
theorem dL_tower_9 : decode cL_tower 9 = .ok (.goto 6, 3) := by decide +kernel
theorem dL_tower_12 : decode cL_tower 12 = .ok (.astore_n 3, 1) := by decide +kernel
theorem dL_tower_13 : decode cL_tower 13 = .ok (.iconst 1, 1) := by decide +kernel
theorem dL_tower_14 : decode cL_tower 14 = .ok (.ireturn, 1) := by decide +kernel
theorem dL_tower_15 : decode cL_tower 15 = .ok (.iconst 0, 1) := by decide +kernel
theorem dL_tower_16 : decode cL_tower 16 = .ok (.ireturn, 1) := by decide +kernel
theorem dL_count_0 : decode cL_count 0 = .ok (.aload_n 2, 1) := by decide +kernel
theorem dL_count_1 : decode cL_count 1 = .ok (.iconst 0, 1) := by decide +kernel
theorem dL_count_2 : decode cL_count 2 = .ok (.aload_n 0, 1) := by decide +kernel
theorem dL_count_3 : decode cL_count 3 = .ok (.iload_n 1, 1) := by decide +kernel
theorem dL_count_4 : decode cL_count 4 = .ok (.invokevirtual 15, 3) := by decide +kernel
theorem dL_count_7 : decode cL_count 7 = .ok (.i2l, 1) := by decide +kernel
theorem dL_count_8 : decode cL_count 8 = .ok (.lastore, 1) := by decide +kernel
theorem dL_count_9 : decode cL_count 9 = .ok (.goto 6, 3) := by decide +kernel
theorem dL_count_12 : decode cL_count 12 = .ok (.astore_n 3, 1) := by decide +kernel
theorem dL_count_13 : decode cL_count 13 = .ok (.iconst 1, 1) := by decide +kernel
theorem dL_count_14 : decode cL_count 14 = .ok (.ireturn, 1) := by decide +kernel
theorem dL_count_15 : decode cL_count 15 = .ok (.iconst 0, 1) := by decide +kernel
theorem dL_count_16 : decode cL_count 16 = .ok (.ireturn, 1) := by decide +kernel
theorem dL_root_0 : decode cL_root 0 = .ok (.aload_n 3, 1) := by decide +kernel
theorem dL_root_1 : decode cL_root 1 = .ok (.iconst 0, 1) := by decide +kernel
theorem dL_root_2 : decode cL_root 2 = .ok (.aload_n 0, 1) := by decide +kernel
theorem dL_root_3 : decode cL_root 3 = .ok (.iload_n 1, 1) := by decide +kernel
theorem dL_root_4 : decode cL_root 4 = .ok (.iload_n 2, 1) := by decide +kernel
theorem dL_root_5 : decode cL_root 5 = .ok (.invokevirtual 20, 3) := by decide +kernel
theorem dL_root_8 : decode cL_root 8 = .ok (.i2l, 1) := by decide +kernel
theorem dL_root_9 : decode cL_root 9 = .ok (.lastore, 1) := by decide +kernel
theorem dL_root_10 : decode cL_root 10 = .ok (.goto 7, 3) := by decide +kernel
theorem dL_root_13 : decode cL_root 13 = .ok (.astore 4, 2) := by decide +kernel
theorem dL_root_15 : decode cL_root 15 = .ok (.iconst 1, 1) := by decide +kernel
theorem dL_root_16 : decode cL_root 16 = .ok (.ireturn, 1) := by decide +kernel
theorem dL_root_17 : decode cL_root 17 = .ok (.iconst 0, 1) := by decide +kernel
theorem dL_root_18 : decode cL_root 18 = .ok (.ireturn, 1) := by decide +kernel
theorem dL_hook_0 : decode cL_hook 0 = .ok (.aload_n 2, 1) := by decide +kernel
theorem dL_hook_1 : decode cL_hook 1 = .ok (.iconst 0, 1) := by decide +kernel
theorem dL_hook_2 : decode cL_hook 2 = .ok (.aload_n 0, 1) := by decide +kernel
theorem dL_hook_3 : decode cL_hook 3 = .ok (.iload_n 1, 1) := by decide +kernel
theorem dL_hook_4 : decode cL_hook 4 = .ok (.invokevirtual 24, 3) := by decide +kernel
theorem dL_hook_7 : decode cL_hook 7 = .ok (.i2l, 1) := by decide +kernel
theorem dL_hook_8 : decode cL_hook 8 = .ok (.lastore, 1) := by decide +kernel
theorem dL_hook_9 : decode cL_hook 9 = .ok (.goto 6, 3) := by decide +kernel
theorem dL_hook_12 : decode cL_hook 12 = .ok (.astore_n 3, 1) := by decide +kernel
theorem dL_hook_13 : decode cL_hook 13 = .ok (.iconst 1, 1) := by decide +kernel
theorem dL_hook_14 : decode cL_hook 14 = .ok (.ireturn, 1) := by decide +kernel
theorem dL_hook_15 : decode cL_hook 15 = .ok (.iconst 0, 1) := by decide +kernel
theorem dL_hook_16 : decode cL_hook 16 = .ok (.ireturn, 1) := by decide +kernel
theorem dL_tune_0 : decode cL_tune 0 = .ok (.aload_n 2, 1) := by decide +kernel
theorem dL_tune_1 : decode cL_tune 1 = .ok (.iconst 0, 1) := by decide +kernel
theorem dL_tune_2 : decode cL_tune 2 = .ok (.aload_n 0, 1) := by decide +kernel
theorem dL_tune_3 : decode cL_tune 3 = .ok (.iload_n 1, 1) := by decide +kernel
theorem dL_tune_4 : decode cL_tune 4 = .ok (.invokevirtual 27, 3) := by decide +kernel
theorem dL_tune_7 : decode cL_tune 7 = .ok (.i2l, 1) := by decide +kernel
theorem dL_tune_8 : decode cL_tune 8 = .ok (.lastore, 1) := by decide +kernel
theorem dL_tune_9 : decode cL_tune 9 = .ok (.goto 6, 3) := by decide +kernel
theorem dL_tune_12 : decode cL_tune 12 = .ok (.astore_n 3, 1) := by decide +kernel
theorem dL_tune_13 : decode cL_tune 13 = .ok (.iconst 1, 1) := by decide +kernel
theorem dL_tune_14 : decode cL_tune 14 = .ok (.ireturn, 1) := by decide +kernel
theorem dL_tune_15 : decode cL_tune 15 = .ok (.iconst 0, 1) := by decide +kernel
theorem dL_tune_16 : decode cL_tune 16 = .ok (.ireturn, 1) := by decide +kernel
theorem dL_change_0 : decode cL_change 0 = .ok (.aload_n 2, 1) := by decide +kernel
theorem dL_change_1 : decode cL_change 1 = .ok (.iconst 0, 1) := by decide +kernel
theorem dL_change_2 : decode cL_change 2 = .ok (.aload_n 0, 1) := by decide +kernel
theorem dL_change_3 : decode cL_change 3 = .ok (.iload_n 1, 1) := by decide +kernel
theorem dL_change_4 : decode cL_change 4 = .ok (.invokevirtual 30, 3) := by decide +kernel
theorem dL_change_7 : decode cL_change 7 = .ok (.i2l, 1) := by decide +kernel
theorem dL_change_8 : decode cL_change 8 = .ok (.lastore, 1) := by decide +kernel
theorem dL_change_9 : decode cL_change 9 = .ok (.goto 6, 3) := by decide +kernel
theorem dL_change_12 : decode cL_change 12 = .ok (.astore_n 3, 1) := by decide +kernel
theorem dL_change_13 : decode cL_change 13 = .ok (.iconst 1, 1) := by decide +kernel
theorem dL_change_14 : decode cL_change 14 = .ok (.ireturn, 1) := by decide +kernel
theorem dL_change_15 : decode cL_change 15 = .ok (.iconst 0, 1) := by decide +kernel
theorem dL_change_16 : decode cL_change 16 = .ok (.ireturn, 1) := by decide +kernel
theorem dL_hang_0 : decode cL_hang 0 = .ok (.aload_n 3, 1) := by decide +kernel
theorem dL_hang_1 : decode cL_hang 1 = .ok (.iconst 0, 1) := by decide +kernel
theorem dL_hang_2 : decode cL_hang 2 = .ok (.aload_n 0, 1) := by decide +kernel
theorem dL_hang_3 : decode cL_hang 3 = .ok (.iload_n 1, 1) := by decide +kernel
theorem dL_hang_4 : decode cL_hang 4 = .ok (.iload_n 2, 1) := by decide +kernel
theorem dL_hang_5 : decode cL_hang 5 = .ok (.invokevirtual 33, 3) := by decide +kernel
theorem dL_hang_8 : decode cL_hang 8 = .ok (.i2l, 1) := by decide +kernel
theorem dL_hang_9 : decode cL_hang 9 = .ok (.lastore, 1) := by decide +kernel
theorem dL_hang_10 : decode cL_hang 10 = .ok (.goto 7, 3) := by decide +kernel
theorem dL_hang_13 : decode cL_hang 13 = .ok (.astore 4, 2) := by decide +kernel
theorem dL_hang_15 : decode cL_hang 15 = .ok (.iconst 1, 1) := by decide +kernel
theorem dL_hang_16 : decode cL_hang 16 = .ok (.ireturn, 1) := by decide +kernel
theorem dL_hang_17 : decode cL_hang 17 = .ok (.iconst 0, 1) := by decide +kernel
theorem dL_hang_18 : decode cL_hang 18 = .ok (.ireturn, 1) := by decide +kernel
theorem dL_take_0 : decode cL_take 0 = .ok (.aload_n 2, 1) := by decide +kernel
theorem dL_take_1 : decode cL_take 1 = .ok (.iconst 0, 1) := by decide +kernel
theorem dL_take_2 : decode cL_take 2 = .ok (.aload_n 0, 1) := by decide +kernel
theorem dL_take_3 : decode cL_take 3 = .ok (.iload_n 1, 1) := by decide +kernel
theorem dL_take_4 : decode cL_take 4 = .ok (.invokevirtual 36, 3) := by decide +kernel
theorem dL_take_7 : decode cL_take 7 = .ok (.i2l, 1) := by decide +kernel
theorem dL_take_8 : decode cL_take 8 = .ok (.lastore, 1) := by decide +kernel
theorem dL_take_9 : decode cL_take 9 = .ok (.goto 6, 3) := by decide +kernel
theorem dL_take_12 : decode cL_take 12 = .ok (.astore_n 3, 1) := by decide +kernel
theorem dL_take_13 : decode cL_take 13 = .ok (.iconst 1, 1) := by decide +kernel
theorem dL_take_14 : decode cL_take 14 = .ok (.ireturn, 1) := by decide +kernel
theorem dL_take_15 : decode cL_take 15 = .ok (.iconst 0, 1) := by decide +kernel
theorem dL_take_16 : decode cL_take 16 = .ok (.ireturn, 1) := by decide +kernel
theorem dL_hollow_0 : decode cL_hollow 0 = .ok (.aload_n 3, 1) := by decide +kernel
theorem dL_hollow_1 : decode cL_hollow 1 = .ok (.iconst 0, 1) := by decide +kernel
theorem dL_hollow_2 : decode cL_hollow 2 = .ok (.aload_n 0, 1) := by decide +kernel
theorem dL_hollow_3 : decode cL_hollow 3 = .ok (.iload_n 1, 1) := by decide +kernel
theorem dL_hollow_4 : decode cL_hollow 4 = .ok (.iload_n 2, 1) := by decide +kernel
theorem dL_hollow_5 : decode cL_hollow 5 = .ok (.invokevirtual 39, 3) := by decide +kernel
theorem dL_hollow_8 : decode cL_hollow 8 = .ok (.i2l, 1) := by decide +kernel
theorem dL_hollow_9 : decode cL_hollow 9 = .ok (.lastore, 1) := by decide +kernel
theorem dL_hollow_10 : decode cL_hollow 10 = .ok (.goto 7, 3) := by decide +kernel
theorem dL_hollow_13 : decode cL_hollow 13 = .ok (.astore 4, 2) := by decide +kernel
theorem dL_hollow_15 : decode cL_hollow 15 = .ok (.iconst 1, 1) := by decide +kernel
theorem dL_hollow_16 : decode cL_hollow 16 = .ok (.ireturn, 1) := by decide +kernel
theorem dL_hollow_17 : decode cL_hollow 17 = .ok (.iconst 0, 1) := by decide +kernel
theorem dL_hollow_18 : decode cL_hollow 18 = .ok (.ireturn, 1) := by decide +kernel
theorem dL_eat_0 : decode cL_eat 0 = .ok (.aload_n 2, 1) := by decide +kernel
theorem dL_eat_1 : decode cL_eat 1 = .ok (.iconst 0, 1) := by decide +kernel
theorem dL_eat_2 : decode cL_eat 2 = .ok (.aload_n 0, 1) := by decide +kernel
theorem dL_eat_3 : decode cL_eat 3 = .ok (.iload_n 1, 1) := by decide +kernel
theorem dL_eat_4 : decode cL_eat 4 = .ok (.invokevirtual 42, 3) := by decide +kernel
theorem dL_eat_7 : decode cL_eat 7 = .ok (.ifCond .eq 7, 3) := by decide +kernel
theorem dL_eat_10 : decode cL_eat 10 = .ok (.lconst 1, 1) := by decide +kernel
theorem dL_eat_11 : decode cL_eat 11 = .ok (.goto 4, 3) := by decide +kernel
theorem dL_eat_14 : decode cL_eat 14 = .ok (.lconst 0, 1) := by decide +kernel
theorem dL_eat_15 : decode cL_eat 15 = .ok (.lastore, 1) := by decide +kernel
theorem dL_eat_16 : decode cL_eat 16 = .ok (.goto 6, 3) := by decide +kernel
theorem dL_eat_19 : decode cL_eat 19 = .ok (.astore_n 3, 1) := by decide +kernel
theorem dL_eat_20 : decode cL_eat 20 = .ok (.iconst 1, 1) := by decide +kernel
theorem dL_eat_21 : decode cL_eat 21 = .ok (.ireturn, 1) := by decide +kernel
theorem dL_eat_22 : decode cL_eat 22 = .ok (.iconst 0, 1) := by decide +kernel
theorem dL_eat_23 : decode cL_eat 23 = .ok (.ireturn, 1) := by decide +kernel
theorem dL_alter_0 : decode cL_alter 0 = .ok (.aload_n 3, 1) := by decide +kernel
theorem dL_alter_1 : decode cL_alter 1 = .ok (.iconst 0, 1) := by decide +kernel
theorem dL_alter_2 : decode cL_alter 2 = .ok (.aload_n 0, 1) := by decide +kernel
theorem dL_alter_3 : decode cL_alter 3 = .ok (.iload_n 1, 1) := by decide +kernel
theorem dL_alter_4 : decode cL_alter 4 = .ok (.iload_n 2, 1) := by decide +kernel
theorem dL_alter_5 : decode cL_alter 5 = .ok (.invokevirtual 46, 3) := by decide +kernel
theorem dL_alter_8 : decode cL_alter 8 = .ok (.i2l, 1) := by decide +kernel
theorem dL_alter_9 : decode cL_alter 9 = .ok (.lastore, 1) := by decide +kernel
theorem dL_alter_10 : decode cL_alter 10 = .ok (.goto 7, 3) := by decide +kernel
theorem dL_alter_13 : decode cL_alter 13 = .ok (.astore 4, 2) := by decide +kernel
theorem dL_alter_15 : decode cL_alter 15 = .ok (.iconst 1, 1) := by decide +kernel
theorem dL_alter_16 : decode cL_alter 16 = .ok (.ireturn, 1) := by decide +kernel
theorem dL_alter_17 : decode cL_alter 17 = .ok (.iconst 0, 1) := by decide +kernel
theorem dL_alter_18 : decode cL_alter 18 = .ok (.ireturn, 1) := by decide +kernel
theorem dL_then_0 : decode cL_then 0 = .ok (.aload_n 3, 1) := by decide +kernel
theorem dL_then_1 : decode cL_then 1 = .ok (.iconst 0, 1) := by decide +kernel
theorem dL_then_2 : decode cL_then 2 = .ok (.aload_n 0, 1) := by decide +kernel
theorem dL_then_3 : decode cL_then 3 = .ok (.iload_n 1, 1) := by decide +kernel
theorem dL_then_4 : decode cL_then 4 = .ok (.iload_n 2, 1) := by decide +kernel
theorem dL_then_5 : decode cL_then 5 = .ok (.invokevirtual 49, 3) := by decide +kernel
theorem dL_then_8 : decode cL_then 8 = .ok (.i2l, 1) := by decide +kernel
theorem dL_then_9 : decode cL_then 9 = .ok (.lastore, 1) := by decide +kernel
theorem dL_then_10 : decode cL_then 10 = .ok (.goto 11, 3) := by decide +kernel
theorem dL_then_13 : decode cL_then 13 = .ok (.astore 4, 2) := by decide +kernel
theorem dL_then_15 : decode cL_then 15 = .ok (.iconst 1, 1) := by decide +kernel
theorem dL_then_16 : decode cL_then 16 = .ok (.ireturn, 1) := by decide +kernel
theorem dL_then_17 : decode cL_then 17 = .ok (.astore 4, 2) := by decide +kernel
theorem dL_then_19 : decode cL_then 19 = .ok (.iconst 2, 1) := by decide +kernel
theorem dL_then_20 : decode cL_then 20 = .ok (.ireturn, 1) := by decide +kernel
theorem dL_then_21 : decode cL_then 21 = .ok (.iconst 0, 1) := by decide +kernel
theorem dL_then_22 : decode cL_then 22 = .ok (.ireturn, 1) := by decide +kernel
theorem dL_goes_0 : decode cL_goes 0 = .ok (.aload_n 2, 1) := by decide +kernel
theorem dL_goes_1 : decode cL_goes 1 = .ok (.iconst 0, 1) := by decide +kernel
theorem dL_goes_2 : decode cL_goes 2 = .ok (.aload_n 0, 1) := by decide +kernel
theorem dL_goes_3 : decode cL_goes 3 = .ok (.iload_n 1, 1) := by decide +kernel
theorem dL_goes_4 : decode cL_goes 4 = .ok (.invokevirtual 52, 3) := by decide +kernel
theorem dL_goes_7 : decode cL_goes 7 = .ok (.i2l, 1) := by decide +kernel
theorem dL_goes_8 : decode cL_goes 8 = .ok (.lastore, 1) := by decide +kernel
theorem dL_goes_9 : decode cL_goes 9 = .ok (.goto 6, 3) := by decide +kernel
theorem dL_goes_12 : decode cL_goes 12 = .ok (.astore_n 3, 1) := by decide +kernel
theorem dL_goes_13 : decode cL_goes 13 = .ok (.iconst 1, 1) := by decide +kernel
theorem dL_goes_14 : decode cL_goes 14 = .ok (.ireturn, 1) := by decide +kernel
theorem dL_goes_15 : decode cL_goes 15 = .ok (.iconst 0, 1) := by decide +kernel
theorem dL_goes_16 : decode cL_goes 16 = .ok (.ireturn, 1) := by decide +kernel
theorem dL_rings_0 : decode cL_rings 0 = .ok (.aload_n 2, 1) := by decide +kernel
theorem dL_rings_1 : decode cL_rings 1 = .ok (.iconst 0, 1) := by decide +kernel
theorem dL_rings_2 : decode cL_rings 2 = .ok (.aload_n 0, 1) := by decide +kernel
theorem dL_rings_3 : decode cL_rings 3 = .ok (.iload_n 1, 1) := by decide +kernel
theorem dL_rings_4 : decode cL_rings 4 = .ok (.invokevirtual 55, 3) := by decide +kernel
theorem dL_rings_7 : decode cL_rings 7 = .ok (.ifCond .eq 7, 3) := by decide +kernel
theorem dL_rings_10 : decode cL_rings 10 = .ok (.lconst 1, 1) := by decide +kernel
theorem dL_rings_11 : decode cL_rings 11 = .ok (.goto 4, 3) := by decide +kernel
theorem dL_rings_14 : decode cL_rings 14 = .ok (.lconst 0, 1) := by decide +kernel
theorem dL_rings_15 : decode cL_rings 15 = .ok (.lastore, 1) := by decide +kernel
theorem dL_rings_16 : decode cL_rings 16 = .ok (.goto 6, 3) := by decide +kernel
theorem dL_rings_19 : decode cL_rings 19 = .ok (.astore_n 3, 1) := by decide +kernel
theorem dL_rings_20 : decode cL_rings 20 = .ok (.iconst 1, 1) := by decide +kernel
theorem dL_rings_21 : decode cL_rings 21 = .ok (.ireturn, 1) := by decide +kernel
theorem dL_rings_22 : decode cL_rings 22 = .ok (.iconst 0, 1) := by decide +kernel
theorem dL_rings_23 : decode cL_rings 23 = .ok (.ireturn, 1) := by decide +kernel
theorem dL_order_0 : decode cL_order 0 = .ok (.aload_n 2, 1) := by decide +kernel
theorem dL_order_1 : decode cL_order 1 = .ok (.iconst 0, 1) := by decide +kernel
theorem dL_order_2 : decode cL_order 2 = .ok (.aload_n 0, 1) := by decide +kernel
theorem dL_order_3 : decode cL_order 3 = .ok (.iload_n 1, 1) := by decide +kernel
theorem dL_order_4 : decode cL_order 4 = .ok (.invokevirtual 58, 3) := by decide +kernel
theorem dL_order_7 : decode cL_order 7 = .ok (.i2l, 1) := by decide +kernel
theorem dL_order_8 : decode cL_order 8 = .ok (.lastore, 1) := by decide +kernel
theorem dL_order_9 : decode cL_order 9 = .ok (.goto 6, 3) := by decide +kernel
theorem dL_order_12 : decode cL_order 12 = .ok (.astore_n 3, 1) := by decide +kernel
theorem dL_order_13 : decode cL_order 13 = .ok (.iconst 1, 1) := by decide +kernel
theorem dL_order_14 : decode cL_order 14 = .ok (.ireturn, 1) := by decide +kernel
theorem dL_order_15 : decode cL_order 15 = .ok (.iconst 0, 1) := by decide +kernel
theorem dL_order_16 : decode cL_order 16 = .ok (.ireturn, 1) := by decide +kernel
theorem dL_row_0 : decode cL_row 0 = .ok (.aload_n 2, 1) := by decide +kernel
theorem dL_row_1 : decode cL_row 1 = .ok (.iconst 0, 1) := by decide +kernel
theorem dL_row_2 : decode cL_row 2 = .ok (.aload_n 0, 1) := by decide +kernel
theorem dL_row_3 : decode cL_row 3 = .ok (.iload_n 1, 1) := by decide +kernel
theorem dL_row_4 : decode cL_row 4 = .ok (.invokevirtual 61, 3) := by decide +kernel
theorem dL_row_7 : decode cL_row 7 = .ok (.i2l, 1) := by decide +kernel
theorem dL_row_8 : decode cL_row 8 = .ok (.lastore, 1) := by decide +kernel
theorem dL_row_9 : decode cL_row 9 = .ok (.goto 6, 3) := by decide +kernel
theorem dL_row_12 : decode cL_row 12 = .ok (.astore_n 3, 1) := by decide +kernel
theorem dL_row_13 : decode cL_row 13 = .ok (.iconst 1, 1) := by decide +kernel
theorem dL_row_14 : decode cL_row 14 = .ok (.ireturn, 1) := by decide +kernel
theorem dL_row_15 : decode cL_row 15 = .ok (.iconst 0, 1) := by decide +kernel
theorem dL_row_16 : decode cL_row 16 = .ok (.ireturn, 1) := by decide +kernel
theorem dL_at_0 : decode cL_at 0 = .ok (.aload_n 3, 1) := by decide +kernel
theorem dL_at_1 : decode cL_at 1 = .ok (.iconst 0, 1) := by decide +kernel
theorem dL_at_2 : decode cL_at 2 = .ok (.aload_n 0, 1) := by decide +kernel
theorem dL_at_3 : decode cL_at 3 = .ok (.iload_n 1, 1) := by decide +kernel
theorem dL_at_4 : decode cL_at 4 = .ok (.iload_n 2, 1) := by decide +kernel
theorem dL_at_5 : decode cL_at 5 = .ok (.invokevirtual 64, 3) := by decide +kernel
theorem dL_at_8 : decode cL_at 8 = .ok (.i2l, 1) := by decide +kernel
theorem dL_at_9 : decode cL_at 9 = .ok (.lastore, 1) := by decide +kernel
theorem dL_at_10 : decode cL_at 10 = .ok (.goto 11, 3) := by decide +kernel
theorem dL_at_13 : decode cL_at 13 = .ok (.astore 4, 2) := by decide +kernel
theorem dL_at_15 : decode cL_at 15 = .ok (.iconst 1, 1) := by decide +kernel
theorem dL_at_16 : decode cL_at 16 = .ok (.ireturn, 1) := by decide +kernel
theorem dL_at_17 : decode cL_at 17 = .ok (.astore 4, 2) := by decide +kernel
theorem dL_at_19 : decode cL_at 19 = .ok (.iconst 2, 1) := by decide +kernel
theorem dL_at_20 : decode cL_at 20 = .ok (.ireturn, 1) := by decide +kernel
theorem dL_at_21 : decode cL_at 21 = .ok (.iconst 0, 1) := by decide +kernel
theorem dL_at_22 : decode cL_at 22 = .ok (.ireturn, 1) := by decide +kernel
theorem dL_fit_0 : decode cL_fit 0 = .ok (.aload_n 2, 1) := by decide +kernel
theorem dL_fit_1 : decode cL_fit 1 = .ok (.iconst 0, 1) := by decide +kernel
theorem dL_fit_2 : decode cL_fit 2 = .ok (.aload_n 0, 1) := by decide +kernel
theorem dL_fit_3 : decode cL_fit 3 = .ok (.iload_n 1, 1) := by decide +kernel
theorem dL_fit_4 : decode cL_fit 4 = .ok (.invokevirtual 67, 3) := by decide +kernel
theorem dL_fit_7 : decode cL_fit 7 = .ok (.i2l, 1) := by decide +kernel
theorem dL_fit_8 : decode cL_fit 8 = .ok (.lastore, 1) := by decide +kernel
theorem dL_fit_9 : decode cL_fit 9 = .ok (.goto 6, 3) := by decide +kernel
theorem dL_fit_12 : decode cL_fit 12 = .ok (.astore_n 3, 1) := by decide +kernel
theorem dL_fit_13 : decode cL_fit 13 = .ok (.iconst 1, 1) := by decide +kernel
theorem dL_fit_14 : decode cL_fit 14 = .ok (.ireturn, 1) := by decide +kernel
theorem dL_fit_15 : decode cL_fit 15 = .ok (.iconst 0, 1) := by decide +kernel
theorem dL_fit_16 : decode cL_fit 16 = .ok (.ireturn, 1) := by decide +kernel
theorem dL_eaten_0 : decode cL_eaten 0 = .ok (.aload_n 2, 1) := by decide +kernel
theorem dL_eaten_1 : decode cL_eaten 1 = .ok (.iconst 0, 1) := by decide +kernel
theorem dL_eaten_2 : decode cL_eaten 2 = .ok (.aload_n 0, 1) := by decide +kernel
theorem dL_eaten_3 : decode cL_eaten 3 = .ok (.iload_n 1, 1) := by decide +kernel
theorem dL_eaten_4 : decode cL_eaten 4 = .ok (.invokevirtual 70, 3) := by decide +kernel
theorem dL_eaten_7 : decode cL_eaten 7 = .ok (.i2l, 1) := by decide +kernel
theorem dL_eaten_8 : decode cL_eaten 8 = .ok (.lastore, 1) := by decide +kernel
theorem dL_eaten_9 : decode cL_eaten 9 = .ok (.goto 6, 3) := by decide +kernel
theorem dL_eaten_12 : decode cL_eaten 12 = .ok (.astore_n 3, 1) := by decide +kernel
theorem dL_eaten_13 : decode cL_eaten 13 = .ok (.iconst 1, 1) := by decide +kernel
theorem dL_eaten_14 : decode cL_eaten 14 = .ok (.ireturn, 1) := by decide +kernel
theorem dL_eaten_15 : decode cL_eaten 15 = .ok (.iconst 0, 1) := by decide +kernel
theorem dL_eaten_16 : decode cL_eaten 16 = .ok (.ireturn, 1) := by decide +kernel
theorem dL_next_0 : decode cL_next 0 = .ok (.aload_n 2, 1) := by decide +kernel
theorem dL_next_1 : decode cL_next 1 = .ok (.iconst 0, 1) := by decide +kernel
theorem dL_next_2 : decode cL_next 2 = .ok (.aload_n 0, 1) := by decide +kernel
theorem dL_next_3 : decode cL_next 3 = .ok (.iload_n 1, 1) := by decide +kernel
theorem dL_next_4 : decode cL_next 4 = .ok (.invokevirtual 73, 3) := by decide +kernel
theorem dL_next_7 : decode cL_next 7 = .ok (.i2l, 1) := by decide +kernel
theorem dL_next_8 : decode cL_next 8 = .ok (.lastore, 1) := by decide +kernel
theorem dL_next_9 : decode cL_next 9 = .ok (.goto 6, 3) := by decide +kernel
theorem dL_next_12 : decode cL_next 12 = .ok (.astore_n 3, 1) := by decide +kernel
theorem dL_next_13 : decode cL_next 13 = .ok (.iconst 1, 1) := by decide +kernel
theorem dL_next_14 : decode cL_next 14 = .ok (.ireturn, 1) := by decide +kernel
theorem dL_next_15 : decode cL_next 15 = .ok (.iconst 0, 1) := by decide +kernel
theorem dL_next_16 : decode cL_next 16 = .ok (.ireturn, 1) := by decide +kernel
theorem dL_game_0 : decode cL_game 0 = .ok (.aload 4, 2) := by decide +kernel
theorem dL_game_2 : decode cL_game 2 = .ok (.iconst 0, 1) := by decide +kernel
theorem dL_game_3 : decode cL_game 3 = .ok (.aload_n 0, 1) := by decide +kernel
theorem dL_game_4 : decode cL_game 4 = .ok (.iload_n 1, 1) := by decide +kernel
theorem dL_game_5 : decode cL_game 5 = .ok (.iload_n 2, 1) := by decide +kernel
theorem dL_game_6 : decode cL_game 6 = .ok (.iload_n 3, 1) := by decide +kernel
theorem dL_game_7 : decode cL_game 7 = .ok (.invokevirtual 76, 3) := by decide +kernel
theorem dL_game_10 : decode cL_game 10 = .ok (.i2l, 1) := by decide +kernel
theorem dL_game_11 : decode cL_game 11 = .ok (.lastore, 1) := by decide +kernel
theorem dL_game_12 : decode cL_game 12 = .ok (.goto 11, 3) := by decide +kernel
theorem dL_game_15 : decode cL_game 15 = .ok (.astore 5, 2) := by decide +kernel
theorem dL_game_17 : decode cL_game 17 = .ok (.iconst 1, 1) := by decide +kernel
theorem dL_game_18 : decode cL_game 18 = .ok (.ireturn, 1) := by decide +kernel
theorem dL_game_19 : decode cL_game 19 = .ok (.astore 5, 2) := by decide +kernel
theorem dL_game_21 : decode cL_game 21 = .ok (.iconst 2, 1) := by decide +kernel
theorem dL_game_22 : decode cL_game 22 = .ok (.ireturn, 1) := by decide +kernel
theorem dL_game_23 : decode cL_game 23 = .ok (.iconst 0, 1) := by decide +kernel
theorem dL_game_24 : decode cL_game 24 = .ok (.ireturn, 1) := by decide +kernel
theorem dL_towers_0 : decode cL_towers 0 = .ok (.aload 4, 2) := by decide +kernel
theorem dL_towers_2 : decode cL_towers 2 = .ok (.iconst 0, 1) := by decide +kernel
theorem dL_towers_3 : decode cL_towers 3 = .ok (.aload_n 0, 1) := by decide +kernel
theorem dL_towers_4 : decode cL_towers 4 = .ok (.iload_n 1, 1) := by decide +kernel
theorem dL_towers_5 : decode cL_towers 5 = .ok (.iload_n 2, 1) := by decide +kernel
theorem dL_towers_6 : decode cL_towers 6 = .ok (.iload_n 3, 1) := by decide +kernel
theorem dL_towers_7 : decode cL_towers 7 = .ok (.invokevirtual 80, 3) := by decide +kernel
theorem dL_towers_10 : decode cL_towers 10 = .ok (.i2l, 1) := by decide +kernel
theorem dL_towers_11 : decode cL_towers 11 = .ok (.lastore, 1) := by decide +kernel
theorem dL_towers_12 : decode cL_towers 12 = .ok (.goto 11, 3) := by decide +kernel
theorem dL_towers_15 : decode cL_towers 15 = .ok (.astore 5, 2) := by decide +kernel
theorem dL_towers_17 : decode cL_towers 17 = .ok (.iconst 1, 1) := by decide +kernel
theorem dL_towers_18 : decode cL_towers 18 = .ok (.ireturn, 1) := by decide +kernel
theorem dL_towers_19 : decode cL_towers 19 = .ok (.astore 5, 2) := by decide +kernel
theorem dL_towers_21 : decode cL_towers 21 = .ok (.iconst 2, 1) := by decide +kernel
theorem dL_towers_22 : decode cL_towers 22 = .ok (.ireturn, 1) := by decide +kernel
theorem dL_towers_23 : decode cL_towers 23 = .ok (.iconst 0, 1) := by decide +kernel
theorem dL_towers_24 : decode cL_towers 24 = .ok (.ireturn, 1) := by decide +kernel
theorem dL_needed_0 : decode cL_needed 0 = .ok (.aload_n 3, 1) := by decide +kernel
theorem dL_needed_1 : decode cL_needed 1 = .ok (.iconst 0, 1) := by decide +kernel
theorem dL_needed_2 : decode cL_needed 2 = .ok (.aload_n 0, 1) := by decide +kernel
theorem dL_needed_3 : decode cL_needed 3 = .ok (.iload_n 1, 1) := by decide +kernel
theorem dL_needed_4 : decode cL_needed 4 = .ok (.iload_n 2, 1) := by decide +kernel
theorem dL_needed_5 : decode cL_needed 5 = .ok (.invokevirtual 83, 3) := by decide +kernel
theorem dL_needed_8 : decode cL_needed 8 = .ok (.i2l, 1) := by decide +kernel
theorem dL_needed_9 : decode cL_needed 9 = .ok (.lastore, 1) := by decide +kernel
theorem dL_needed_10 : decode cL_needed 10 = .ok (.goto 7, 3) := by decide +kernel
theorem dL_needed_13 : decode cL_needed 13 = .ok (.astore 4, 2) := by decide +kernel
theorem dL_needed_15 : decode cL_needed 15 = .ok (.iconst 1, 1) := by decide +kernel
theorem dL_needed_16 : decode cL_needed 16 = .ok (.ireturn, 1) := by decide +kernel
theorem dL_needed_17 : decode cL_needed 17 = .ok (.iconst 0, 1) := by decide +kernel
theorem dL_needed_18 : decode cL_needed 18 = .ok (.ireturn, 1) := by decide +kernel
theorem dL_grown_0 : decode cL_grown 0 = .ok (.aload_n 3, 1) := by decide +kernel
theorem dL_grown_1 : decode cL_grown 1 = .ok (.iconst 0, 1) := by decide +kernel
theorem dL_grown_2 : decode cL_grown 2 = .ok (.aload_n 0, 1) := by decide +kernel
theorem dL_grown_3 : decode cL_grown 3 = .ok (.iload_n 1, 1) := by decide +kernel
theorem dL_grown_4 : decode cL_grown 4 = .ok (.iload_n 2, 1) := by decide +kernel
theorem dL_grown_5 : decode cL_grown 5 = .ok (.invokevirtual 86, 3) := by decide +kernel
theorem dL_grown_8 : decode cL_grown 8 = .ok (.i2l, 1) := by decide +kernel
theorem dL_grown_9 : decode cL_grown 9 = .ok (.lastore, 1) := by decide +kernel
theorem dL_grown_10 : decode cL_grown 10 = .ok (.goto 7, 3) := by decide +kernel
theorem dL_grown_13 : decode cL_grown 13 = .ok (.astore 4, 2) := by decide +kernel
theorem dL_grown_15 : decode cL_grown 15 = .ok (.iconst 1, 1) := by decide +kernel
theorem dL_grown_16 : decode cL_grown 16 = .ok (.ireturn, 1) := by decide +kernel
theorem dL_grown_17 : decode cL_grown 17 = .ok (.iconst 0, 1) := by decide +kernel
theorem dL_grown_18 : decode cL_grown 18 = .ok (.ireturn, 1) := by decide +kernel
theorem dL_scale_0 : decode cL_scale 0 = .ok (.aload_n 2, 1) := by decide +kernel
theorem dL_scale_1 : decode cL_scale 1 = .ok (.iconst 0, 1) := by decide +kernel
theorem dL_scale_2 : decode cL_scale 2 = .ok (.aload_n 0, 1) := by decide +kernel
theorem dL_scale_3 : decode cL_scale 3 = .ok (.iload_n 1, 1) := by decide +kernel
theorem dL_scale_4 : decode cL_scale 4 = .ok (.invokevirtual 89, 3) := by decide +kernel
theorem dL_scale_7 : decode cL_scale 7 = .ok (.i2l, 1) := by decide +kernel
theorem dL_scale_8 : decode cL_scale 8 = .ok (.lastore, 1) := by decide +kernel
theorem dL_scale_9 : decode cL_scale 9 = .ok (.goto 6, 3) := by decide +kernel
theorem dL_scale_12 : decode cL_scale 12 = .ok (.astore_n 3, 1) := by decide +kernel
theorem dL_scale_13 : decode cL_scale 13 = .ok (.iconst 1, 1) := by decide +kernel
theorem dL_scale_14 : decode cL_scale 14 = .ok (.ireturn, 1) := by decide +kernel
theorem dL_scale_15 : decode cL_scale 15 = .ok (.iconst 0, 1) := by decide +kernel
theorem dL_scale_16 : decode cL_scale 16 = .ok (.ireturn, 1) := by decide +kernel
theorem dL_mouth_0 : decode cL_mouth 0 = .ok (.aload_n 2, 1) := by decide +kernel
theorem dL_mouth_1 : decode cL_mouth 1 = .ok (.iconst 0, 1) := by decide +kernel
theorem dL_mouth_2 : decode cL_mouth 2 = .ok (.aload_n 0, 1) := by decide +kernel
theorem dL_mouth_3 : decode cL_mouth 3 = .ok (.iload_n 1, 1) := by decide +kernel
theorem dL_mouth_4 : decode cL_mouth 4 = .ok (.invokevirtual 92, 3) := by decide +kernel
theorem dL_mouth_7 : decode cL_mouth 7 = .ok (.i2l, 1) := by decide +kernel
theorem dL_mouth_8 : decode cL_mouth 8 = .ok (.lastore, 1) := by decide +kernel
theorem dL_mouth_9 : decode cL_mouth 9 = .ok (.goto 6, 3) := by decide +kernel
theorem dL_mouth_12 : decode cL_mouth 12 = .ok (.astore_n 3, 1) := by decide +kernel
theorem dL_mouth_13 : decode cL_mouth 13 = .ok (.iconst 1, 1) := by decide +kernel
theorem dL_mouth_14 : decode cL_mouth 14 = .ok (.ireturn, 1) := by decide +kernel
theorem dL_mouth_15 : decode cL_mouth 15 = .ok (.iconst 0, 1) := by decide +kernel
theorem dL_mouth_16 : decode cL_mouth 16 = .ok (.ireturn, 1) := by decide +kernel
theorem dL_leads_0 : decode cL_leads 0 = .ok (.aload_n 2, 1) := by decide +kernel
theorem dL_leads_1 : decode cL_leads 1 = .ok (.iconst 0, 1) := by decide +kernel
theorem dL_leads_2 : decode cL_leads 2 = .ok (.aload_n 0, 1) := by decide +kernel
theorem dL_leads_3 : decode cL_leads 3 = .ok (.iload_n 1, 1) := by decide +kernel
theorem dL_leads_4 : decode cL_leads 4 = .ok (.invokevirtual 95, 3) := by decide +kernel
theorem dL_leads_7 : decode cL_leads 7 = .ok (.i2l, 1) := by decide +kernel
theorem dL_leads_8 : decode cL_leads 8 = .ok (.lastore, 1) := by decide +kernel
theorem dL_leads_9 : decode cL_leads 9 = .ok (.goto 6, 3) := by decide +kernel
theorem dL_leads_12 : decode cL_leads 12 = .ok (.astore_n 3, 1) := by decide +kernel
theorem dL_leads_13 : decode cL_leads 13 = .ok (.iconst 1, 1) := by decide +kernel
theorem dL_leads_14 : decode cL_leads 14 = .ok (.ireturn, 1) := by decide +kernel
theorem dL_leads_15 : decode cL_leads 15 = .ok (.iconst 0, 1) := by decide +kernel
theorem dL_leads_16 : decode cL_leads 16 = .ok (.ireturn, 1) := by decide +kernel
theorem dL_meets_0 : decode cL_meets 0 = .ok (.aload_n 3, 1) := by decide +kernel
theorem dL_meets_1 : decode cL_meets 1 = .ok (.iconst 0, 1) := by decide +kernel
theorem dL_meets_2 : decode cL_meets 2 = .ok (.aload_n 0, 1) := by decide +kernel
theorem dL_meets_3 : decode cL_meets 3 = .ok (.iload_n 1, 1) := by decide +kernel
theorem dL_meets_4 : decode cL_meets 4 = .ok (.iload_n 2, 1) := by decide +kernel
theorem dL_meets_5 : decode cL_meets 5 = .ok (.invokevirtual 98, 3) := by decide +kernel
theorem dL_meets_8 : decode cL_meets 8 = .ok (.i2l, 1) := by decide +kernel
theorem dL_meets_9 : decode cL_meets 9 = .ok (.lastore, 1) := by decide +kernel
theorem dL_meets_10 : decode cL_meets 10 = .ok (.goto 7, 3) := by decide +kernel
theorem dL_meets_13 : decode cL_meets 13 = .ok (.astore 4, 2) := by decide +kernel
theorem dL_meets_15 : decode cL_meets 15 = .ok (.iconst 1, 1) := by decide +kernel
theorem dL_meets_16 : decode cL_meets 16 = .ok (.ireturn, 1) := by decide +kernel
theorem dL_meets_17 : decode cL_meets 17 = .ok (.iconst 0, 1) := by decide +kernel
theorem dL_meets_18 : decode cL_meets 18 = .ok (.ireturn, 1) := by decide +kernel
theorem dL_without_0 : decode cL_without 0 = .ok (.aload_n 2, 1) := by decide +kernel
theorem dL_without_1 : decode cL_without 1 = .ok (.iconst 0, 1) := by decide +kernel
theorem dL_without_2 : decode cL_without 2 = .ok (.aload_n 0, 1) := by decide +kernel
theorem dL_without_3 : decode cL_without 3 = .ok (.iload_n 1, 1) := by decide +kernel
theorem dL_without_4 : decode cL_without 4 = .ok (.invokevirtual 101, 3) := by decide +kernel
theorem dL_without_7 : decode cL_without 7 = .ok (.i2l, 1) := by decide +kernel
theorem dL_without_8 : decode cL_without 8 = .ok (.lastore, 1) := by decide +kernel
theorem dL_without_9 : decode cL_without 9 = .ok (.goto 6, 3) := by decide +kernel
theorem dL_without_12 : decode cL_without 12 = .ok (.astore_n 3, 1) := by decide +kernel
theorem dL_without_13 : decode cL_without 13 = .ok (.iconst 1, 1) := by decide +kernel
theorem dL_without_14 : decode cL_without 14 = .ok (.ireturn, 1) := by decide +kernel
theorem dL_without_15 : decode cL_without 15 = .ok (.iconst 0, 1) := by decide +kernel
theorem dL_without_16 : decode cL_without 16 = .ok (.ireturn, 1) := by decide +kernel
theorem dL_often_0 : decode cL_often 0 = .ok (.aload_n 2, 1) := by decide +kernel
theorem dL_often_1 : decode cL_often 1 = .ok (.iconst 0, 1) := by decide +kernel
theorem dL_often_2 : decode cL_often 2 = .ok (.aload_n 0, 1) := by decide +kernel
theorem dL_often_3 : decode cL_often 3 = .ok (.iload_n 1, 1) := by decide +kernel
theorem dL_often_4 : decode cL_often 4 = .ok (.invokevirtual 104, 3) := by decide +kernel
theorem dL_often_7 : decode cL_often 7 = .ok (.i2l, 1) := by decide +kernel
theorem dL_often_8 : decode cL_often 8 = .ok (.lastore, 1) := by decide +kernel
theorem dL_often_9 : decode cL_often 9 = .ok (.goto 6, 3) := by decide +kernel
theorem dL_often_12 : decode cL_often 12 = .ok (.astore_n 3, 1) := by decide +kernel
theorem dL_often_13 : decode cL_often 13 = .ok (.iconst 1, 1) := by decide +kernel
theorem dL_often_14 : decode cL_often 14 = .ok (.ireturn, 1) := by decide +kernel
theorem dL_often_15 : decode cL_often 15 = .ok (.iconst 0, 1) := by decide +kernel
theorem dL_often_16 : decode cL_often 16 = .ok (.ireturn, 1) := by decide +kernel
theorem cv_X11_tower : mCv mX11_tower 11 1 := ⟨⟨wd_841, wd_127, by decide, by decide, by decide⟩, wd_839, wd_840, TX11, 16, rfl⟩
theorem cv_X11_count : mCv mX11_count 11 1 := ⟨⟨wd_1145, wd_127, by decide, by decide, by decide⟩, wd_1143, wd_1144, TX11, 16, rfl⟩
theorem cv_X11_root : mCv mX11_root 11 2 := ⟨⟨wd_1182, wd_127, by decide, by decide, by decide⟩, wd_1180, wd_1181, TX11, 16, rfl⟩
theorem cv_X11_hook : mCv mX11_hook 11 1 := ⟨⟨wd_1204, wd_127, by decide, by decide, by decide⟩, wd_1202, wd_1203, TX11, 16, rfl⟩
theorem cv_X11_tune : mCv mX11_tune 11 1 := ⟨⟨wd_1217, wd_127, by decide, by decide, by decide⟩, wd_1215, wd_1216, TX11, 16, rfl⟩
theorem cv_X11_change : mCv mX11_change 11 1 := ⟨⟨wd_1229, wd_127, by decide, by decide, by decide⟩, wd_1227, wd_1228, TX11, 16, rfl⟩
theorem cv_X11_hang : mCv mX11_hang 11 2 := ⟨⟨wd_1242, wd_127, by decide, by decide, by decide⟩, wd_1240, wd_1241, TX11, 16, rfl⟩
theorem cv_X11_take : mCv mX11_take 11 1 := ⟨⟨wd_1253, wd_127, by decide, by decide, by decide⟩, wd_1251, wd_1252, TX11, 16, rfl⟩
theorem cv_X11_hollow : mCv mX11_hollow 11 2 := ⟨⟨wd_1260, wd_127, by decide, by decide, by decide⟩, wd_1258, wd_1259, TX11, 16, rfl⟩
theorem cv_X11_eat : mCv mX11_eat 11 1 := ⟨⟨wd_1271, wd_127, by decide, by decide, by decide⟩, wd_1269, wd_1270, TX11, 16, rfl⟩
theorem cv_X11_alter : mCv mX11_alter 11 2 := ⟨⟨wd_1278, wd_127, by decide, by decide, by decide⟩, wd_1276, wd_1277, TX11, 16, rfl⟩
theorem cv_X11_then : mCv mX11_then 11 2 := ⟨⟨wd_1287, wd_127, by decide, by decide, by decide⟩, wd_1285, wd_1286, TX11, 16, rfl⟩
theorem cv_X11_goes : mCv mX11_goes 11 1 := ⟨⟨wd_1300, wd_127, by decide, by decide, by decide⟩, wd_1298, wd_1299, TX11, 16, rfl⟩
theorem cv_X11_rings : mCv mX11_rings 11 1 := ⟨⟨wd_1307, wd_127, by decide, by decide, by decide⟩, wd_1305, wd_1306, TX11, 16, rfl⟩
theorem cv_X11_order : mCv mX11_order 11 1 := ⟨⟨wd_1314, wd_127, by decide, by decide, by decide⟩, wd_1312, wd_1313, TX11, 16, rfl⟩
theorem cv_X11_row : mCv mX11_row 11 1 := ⟨⟨wd_1330, wd_127, by decide, by decide, by decide⟩, wd_1328, wd_1329, TX11, 16, rfl⟩
theorem cv_X11_at : mCv mX11_at 11 2 := ⟨⟨wd_1350, wd_127, by decide, by decide, by decide⟩, wd_1348, wd_1349, TX11, 16, rfl⟩
theorem cv_X11_fit : mCv mX11_fit 11 1 := ⟨⟨wd_1366, wd_127, by decide, by decide, by decide⟩, wd_1364, wd_1365, TX11, 16, rfl⟩
theorem cv_X11_eaten : mCv mX11_eaten 11 1 := ⟨⟨wd_1408, wd_127, by decide, by decide, by decide⟩, wd_1406, wd_1407, TX11, 16, rfl⟩
theorem cv_X11_next : mCv mX11_next 11 1 := ⟨⟨wd_1444, wd_127, by decide, by decide, by decide⟩, wd_1442, wd_1443, TX11, 16, rfl⟩
theorem cv_X11_game : mCv mX11_game 11 3 := ⟨⟨wd_1477, wd_127, by decide, by decide, by decide⟩, wd_1475, wd_1476, TX11, 16, rfl⟩
theorem cv_X11_towers : mCv mX11_towers 11 3 := ⟨⟨wd_1506, wd_127, by decide, by decide, by decide⟩, wd_1504, wd_1505, TX11, 16, rfl⟩
theorem cv_X11_needed : mCv mX11_needed 11 2 := ⟨⟨wd_1546, wd_127, by decide, by decide, by decide⟩, wd_1544, wd_1545, TX11, 16, rfl⟩
theorem cv_X11_grown : mCv mX11_grown 11 2 := ⟨⟨wd_1564, wd_127, by decide, by decide, by decide⟩, wd_1562, wd_1563, TX11, 16, rfl⟩
theorem cv_X11_scale : mCv mX11_scale 11 1 := ⟨⟨wd_1571, wd_127, by decide, by decide, by decide⟩, wd_1569, wd_1570, TX11, 16, rfl⟩
theorem cv_X11_mouth : mCv mX11_mouth 11 1 := ⟨⟨wd_1578, wd_127, by decide, by decide, by decide⟩, wd_1576, wd_1577, TX11, 16, rfl⟩
theorem cv_X11_leads : mCv mX11_leads 11 1 := ⟨⟨wd_1589, wd_127, by decide, by decide, by decide⟩, wd_1587, wd_1588, TX11, 16, rfl⟩
theorem cv_X11_meets : mCv mX11_meets 11 2 := ⟨⟨wd_1605, wd_127, by decide, by decide, by decide⟩, wd_1603, wd_1604, TX11, 16, rfl⟩
theorem cv_X11_without : mCv mX11_without 11 1 := ⟨⟨wd_1621, wd_127, by decide, by decide, by decide⟩, wd_1619, wd_1620, TX11, 16, rfl⟩
theorem cv_X11_often : mCv mX11_often 11 1 := ⟨⟨wd_1628, wd_127, by decide, by decide, by decide⟩, wd_1626, wd_1627, TX11, 16, rfl⟩
theorem ci_X11_init : mCi mX11_init 0 := ⟨⟨wd_156, wd_127, by decide, by decide, by decide⟩, wd_155, rfl, rfl⟩
theorem ci_X12_init : mCi mX12_init 0 := ⟨⟨wd_1633, wd_139, by decide, by decide, by decide⟩, wd_1632, rfl, rfl⟩
theorem cv_X11_feed : mCv mX11_feed 11 5 := ⟨⟨wd_522, wd_127, by decide, by decide, by decide⟩, wd_520, wd_521, TX11, 16, rfl⟩
theorem cv_X12_feed : mCv mX12_feed 12 5 := ⟨⟨wd_1842, wd_139, by decide, by decide, by decide⟩, wd_1840, wd_1841, TX12, 66, rfl⟩
theorem cv_X12_tower : mCv mX12_tower 12 1 := ⟨⟨wd_1850, wd_139, by decide, by decide, by decide⟩, wd_1848, wd_1849, TX12, 66, rfl⟩
theorem cv_X12_thrown : mCv mX12_thrown 12 0 := ⟨⟨wd_1838, wd_139, by decide, by decide, by decide⟩, wd_1836, wd_1837, TX12, 66, rfl⟩
theorem cv_X11_fault : mCv mX11_fault 11 0 := ⟨⟨wd_534, wd_127, by decide, by decide, by decide⟩, wd_532, wd_533, TX11, 16, rfl⟩
theorem cv_X12_fault : mCv mX12_fault 12 0 := ⟨⟨wd_1975, wd_139, by decide, by decide, by decide⟩, wd_1973, wd_1974, TX12, 66, rfl⟩
theorem cv_X12_count : mCv mX12_count 12 1 := ⟨⟨wd_1983, wd_139, by decide, by decide, by decide⟩, wd_1981, wd_1982, TX12, 66, rfl⟩
theorem cv_X12_root : mCv mX12_root 12 2 := ⟨⟨wd_2033, wd_139, by decide, by decide, by decide⟩, wd_2031, wd_2032, TX12, 66, rfl⟩
theorem cv_X12_hook : mCv mX12_hook 12 1 := ⟨⟨wd_2049, wd_139, by decide, by decide, by decide⟩, wd_2047, wd_2048, TX12, 66, rfl⟩
theorem cv_X12_tune : mCv mX12_tune 12 1 := ⟨⟨wd_2053, wd_139, by decide, by decide, by decide⟩, wd_2051, wd_2052, TX12, 66, rfl⟩
theorem cv_X12_change : mCv mX12_change 12 1 := ⟨⟨wd_2057, wd_139, by decide, by decide, by decide⟩, wd_2055, wd_2056, TX12, 66, rfl⟩
theorem cv_X11_days : mCv mX11_days 11 1 := ⟨⟨wd_538, wd_127, by decide, by decide, by decide⟩, wd_536, wd_537, TX11, 16, rfl⟩
theorem cv_X12_days : mCv mX12_days 12 1 := ⟨⟨wd_2061, wd_139, by decide, by decide, by decide⟩, wd_2059, wd_2060, TX12, 66, rfl⟩
theorem cv_X12_hang : mCv mX12_hang 12 2 := ⟨⟨wd_2081, wd_139, by decide, by decide, by decide⟩, wd_2079, wd_2080, TX12, 66, rfl⟩
theorem cv_X12_take : mCv mX12_take 12 1 := ⟨⟨wd_2085, wd_139, by decide, by decide, by decide⟩, wd_2083, wd_2084, TX12, 66, rfl⟩
theorem cv_X12_hollow : mCv mX12_hollow 12 2 := ⟨⟨wd_2089, wd_139, by decide, by decide, by decide⟩, wd_2087, wd_2088, TX12, 66, rfl⟩
theorem cv_X12_eat : mCv mX12_eat 12 1 := ⟨⟨wd_2093, wd_139, by decide, by decide, by decide⟩, wd_2091, wd_2092, TX12, 66, rfl⟩
theorem cv_X12_alter : mCv mX12_alter 12 2 := ⟨⟨wd_2097, wd_139, by decide, by decide, by decide⟩, wd_2095, wd_2096, TX12, 66, rfl⟩
theorem cv_X11_undo : mCv mX11_undo 11 0 := ⟨⟨wd_647, wd_127, by decide, by decide, by decide⟩, wd_645, wd_646, TX11, 16, rfl⟩
theorem cv_X12_undo : mCv mX12_undo 12 0 := ⟨⟨wd_1979, wd_139, by decide, by decide, by decide⟩, wd_1977, wd_1978, TX12, 66, rfl⟩
theorem cv_X12_then : mCv mX12_then 12 2 := ⟨⟨wd_2101, wd_139, by decide, by decide, by decide⟩, wd_2099, wd_2100, TX12, 66, rfl⟩
theorem cv_X12_goes : mCv mX12_goes 12 1 := ⟨⟨wd_2117, wd_139, by decide, by decide, by decide⟩, wd_2115, wd_2116, TX12, 66, rfl⟩
theorem cv_X12_rings : mCv mX12_rings 12 1 := ⟨⟨wd_2125, wd_139, by decide, by decide, by decide⟩, wd_2123, wd_2124, TX12, 66, rfl⟩
theorem cv_X11_last : mCv mX11_last 11 0 := ⟨⟨wd_663, wd_127, by decide, by decide, by decide⟩, wd_661, wd_662, TX11, 16, rfl⟩
theorem cv_X12_last : mCv mX12_last 12 0 := ⟨⟨wd_2133, wd_139, by decide, by decide, by decide⟩, wd_2131, wd_2132, TX12, 66, rfl⟩
theorem cv_X11_soft : mCv mX11_soft 11 0 := ⟨⟨wd_714, wd_127, by decide, by decide, by decide⟩, wd_712, wd_713, TX11, 16, rfl⟩
theorem cv_X12_soft : mCv mX12_soft 12 0 := ⟨⟨wd_2137, wd_139, by decide, by decide, by decide⟩, wd_2135, wd_2136, TX12, 66, rfl⟩
theorem cv_X12_order : mCv mX12_order 12 1 := ⟨⟨wd_2145, wd_139, by decide, by decide, by decide⟩, wd_2143, wd_2144, TX12, 66, rfl⟩
theorem cv_X12_row : mCv mX12_row 12 1 := ⟨⟨wd_2149, wd_139, by decide, by decide, by decide⟩, wd_2147, wd_2148, TX12, 66, rfl⟩
theorem cv_X12_at : mCv mX12_at 12 2 := ⟨⟨wd_2173, wd_139, by decide, by decide, by decide⟩, wd_2171, wd_2172, TX12, 66, rfl⟩
theorem cv_X11_length : mCv mX11_length 11 0 := ⟨⟨wd_723, wd_127, by decide, by decide, by decide⟩, wd_721, wd_722, TX11, 16, rfl⟩
theorem cv_X12_length : mCv mX12_length 12 0 := ⟨⟨wd_2177, wd_139, by decide, by decide, by decide⟩, wd_2175, wd_2176, TX12, 66, rfl⟩
theorem cv_X11_isTrue : mCv mX11_isTrue 11 0 := ⟨⟨wd_751, wd_127, by decide, by decide, by decide⟩, wd_749, wd_750, TX11, 16, rfl⟩
theorem cv_X12_isTrue : mCv mX12_isTrue 12 0 := ⟨⟨wd_2185, wd_139, by decide, by decide, by decide⟩, wd_2183, wd_2184, TX12, 66, rfl⟩
theorem cv_X11_longer : mCv mX11_longer 11 0 := ⟨⟨wd_763, wd_127, by decide, by decide, by decide⟩, wd_761, wd_762, TX11, 16, rfl⟩
theorem cv_X12_longer : mCv mX12_longer 12 0 := ⟨⟨wd_2189, wd_139, by decide, by decide, by decide⟩, wd_2187, wd_2188, TX12, 66, rfl⟩
theorem cv_X12_fit : mCv mX12_fit 12 1 := ⟨⟨wd_2193, wd_139, by decide, by decide, by decide⟩, wd_2191, wd_2192, TX12, 66, rfl⟩
theorem cv_X11_keepers : mCv mX11_keepers 11 0 := ⟨⟨wd_775, wd_127, by decide, by decide, by decide⟩, wd_773, wd_774, TX11, 16, rfl⟩
theorem cv_X12_keepers : mCv mX12_keepers 12 0 := ⟨⟨wd_2209, wd_139, by decide, by decide, by decide⟩, wd_2207, wd_2208, TX12, 66, rfl⟩
theorem cv_X11_earliest : mCv mX11_earliest 11 0 := ⟨⟨wd_783, wd_127, by decide, by decide, by decide⟩, wd_781, wd_782, TX11, 16, rfl⟩
theorem cv_X12_earliest : mCv mX12_earliest 12 0 := ⟨⟨wd_2220, wd_139, by decide, by decide, by decide⟩, wd_2218, wd_2219, TX12, 66, rfl⟩
theorem cv_X11_hear : mCv mX11_hear 11 3 := ⟨⟨wd_791, wd_127, by decide, by decide, by decide⟩, wd_789, wd_790, TX11, 16, rfl⟩
theorem cv_X12_hear : mCv mX12_hear 12 3 := ⟨⟨wd_2224, wd_139, by decide, by decide, by decide⟩, wd_2222, wd_2223, TX12, 66, rfl⟩
theorem cv_X11_forget : mCv mX11_forget 11 0 := ⟨⟨wd_806, wd_127, by decide, by decide, by decide⟩, wd_804, wd_805, TX11, 16, rfl⟩
theorem cv_X12_forget : mCv mX12_forget 12 0 := ⟨⟨wd_2228, wd_139, by decide, by decide, by decide⟩, wd_2226, wd_2227, TX12, 66, rfl⟩
theorem cv_X12_eaten : mCv mX12_eaten 12 1 := ⟨⟨wd_2232, wd_139, by decide, by decide, by decide⟩, wd_2230, wd_2231, TX12, 66, rfl⟩
theorem cv_X12_next : mCv mX12_next 12 1 := ⟨⟨wd_2244, wd_139, by decide, by decide, by decide⟩, wd_2242, wd_2243, TX12, 66, rfl⟩
theorem cv_X12_game : mCv mX12_game 12 3 := ⟨⟨wd_2248, wd_139, by decide, by decide, by decide⟩, wd_2246, wd_2247, TX12, 66, rfl⟩
theorem cv_X12_towers : mCv mX12_towers 12 3 := ⟨⟨wd_2260, wd_139, by decide, by decide, by decide⟩, wd_2258, wd_2259, TX12, 66, rfl⟩
theorem cv_X12_needed : mCv mX12_needed 12 2 := ⟨⟨wd_2273, wd_139, by decide, by decide, by decide⟩, wd_2271, wd_2272, TX12, 66, rfl⟩
theorem cv_X12_grown : mCv mX12_grown 12 2 := ⟨⟨wd_2281, wd_139, by decide, by decide, by decide⟩, wd_2279, wd_2280, TX12, 66, rfl⟩
theorem cv_X12_scale : mCv mX12_scale 12 1 := ⟨⟨wd_2285, wd_139, by decide, by decide, by decide⟩, wd_2283, wd_2284, TX12, 66, rfl⟩
theorem cv_X12_mouth : mCv mX12_mouth 12 1 := ⟨⟨wd_2289, wd_139, by decide, by decide, by decide⟩, wd_2287, wd_2288, TX12, 66, rfl⟩
theorem cv_X12_leads : mCv mX12_leads 12 1 := ⟨⟨wd_2293, wd_139, by decide, by decide, by decide⟩, wd_2291, wd_2292, TX12, 66, rfl⟩
theorem cv_X12_meets : mCv mX12_meets 12 2 := ⟨⟨wd_2301, wd_139, by decide, by decide, by decide⟩, wd_2299, wd_2300, TX12, 66, rfl⟩
theorem cv_X12_without : mCv mX12_without 12 1 := ⟨⟨wd_2305, wd_139, by decide, by decide, by decide⟩, wd_2303, wd_2304, TX12, 66, rfl⟩
theorem cv_X12_often : mCv mX12_often 12 1 := ⟨⟨wd_2309, wd_139, by decide, by decide, by decide⟩, wd_2307, wd_2308, TX12, 66, rfl⟩
theorem cv_X11_spare : mCv mX11_spare 11 0 := ⟨⟨wd_814, wd_127, by decide, by decide, by decide⟩, wd_812, wd_813, TX11, 16, rfl⟩
theorem cv_X12_spare : mCv mX12_spare 12 0 := ⟨⟨wd_2313, wd_139, by decide, by decide, by decide⟩, wd_2311, wd_2312, TX12, 66, rfl⟩
theorem cv_X11_image : mCv mX11_image 11 0 := ⟨⟨wd_818, wd_127, by decide, by decide, by decide⟩, wd_816, wd_817, TX11, 16, rfl⟩
theorem cv_X12_image : mCv mX12_image 12 0 := ⟨⟨wd_2317, wd_139, by decide, by decide, by decide⟩, wd_2315, wd_2316, TX12, 66, rfl⟩
theorem cv_X11_restore : mCv mX11_restore 11 0 := ⟨⟨wd_833, wd_127, by decide, by decide, by decide⟩, wd_831, wd_832, TX11, 16, rfl⟩
theorem cv_X12_restore : mCv mX12_restore 12 0 := ⟨⟨wd_2321, wd_139, by decide, by decide, by decide⟩, wd_2319, wd_2320, TX12, 66, rfl⟩
def mL_tower : mMt := (yL_tower, cL_tower, 4, some .int, 13, 281)
set_option maxRecDepth 20000 in
theorem ow_tower_r {l : Launch} {E : mEn} {Fu : Nat} {I : mIT} {R : mRT} {L : mLT} {v1 : Int32} (hst : l.stackTraces = false) (hW : mWd R) {o : Int32 × mIT × mRT} (h : f_X11_tower Fu R I v1 = some (.inl o)) : mOw l E mL_tower [(0, 9, 12, 13)] [.ref (mB E + 0), .int v1, .ref (mB E + 105)] 106 1 I R L 1 6 (mSame (some (.int 0)) 106 1 (o.2.1) (o.2.2) (mUL L 105 0 (o.1).toInt64)) := by
  refine mOw_of hst (by decide) (Nat.le_of_ble_eq_true rfl) (fun X hC hE _ => ?_)
  have hC : mD X E mL_tower RL cL_tower [(0, 9, 12, 13)] := hC
  show mG X E 0 [(0, .ref (mB E + 0)), (1, .int v1), (2, .ref (mB E + 105))] [] 106 1 I R L 0 0
  refine h_aload_n hC dL_tower_0 (i := 2) rfl (q := 2) rfl ?_
  refine h_iconst hC dL_tower_1 (v := (0 : Int32)) (by decide) ?_
  refine h_aload_n hC dL_tower_2 (i := 0) rfl (q := 0) rfl ?_
  refine h_iload_n hC dL_tower_3 (i := 1) rfl (q := 1) rfl ?_
  refine h_cV1 hC cv_X11_tower wd_838 ⟨Nat.le_of_ble_eq_true rfl, Nat.le_of_ble_eq_true rfl⟩ rfl (by decide) dL_tower_4 (As := [.int v1]) (st := [.int (0 : Int32), .ref (mB E + 105)]) (oi_X11_tower hC.2.2.2.2.2.2.2.1 hW h) rfl rfl (Nat.le_of_ble_eq_true rfl) (by rw [hE.1]; exact ⟨by decide, by decide⟩) ?_
  refine h_i2l hC dL_tower_7 ?_
  refine h_last hC (len := 1) rfl (by decide) (inB_in (by decide)) dL_tower_8 (nm_e ?_)
  refine h_goto hC dL_tower_9 (tgt := 15) (by decide) ?_
  refine h_iconst hC dL_tower_15 (v := (0 : Int32)) (by decide) ?_
  exact h_xiret hC hE rfl dL_tower_16 (by decide) (by decide) ⟨rfl, rfl, rfl, rfl, rfl, rfl⟩
set_option maxRecDepth 20000 in
theorem ow_tower_t2 {l : Launch} {E : mEn} {Fu : Nat} {I : mIT} {R : mRT} {L : mLT} {v1 : Int32} (hst : l.stackTraces = false) (hW : mWd R) {I1 : mIT} (h : f_X11_tower Fu R I v1 = some (.inr (2, I1))) : mOw l E mL_tower [(0, 9, 12, 13)] [.ref (mB E + 0), .int v1, .ref (mB E + 105)] 106 1 I R L 1 6 (mSame (some (.int 1)) 106 1 I1 R L) := by
  refine mOw_of hst (by decide) (Nat.le_of_ble_eq_true rfl) (fun X hC hE _ => ?_)
  have hC : mD X E mL_tower RL cL_tower [(0, 9, 12, 13)] := hC
  show mG X E 0 [(0, .ref (mB E + 0)), (1, .int v1), (2, .ref (mB E + 105))] [] 106 1 I R L 0 0
  refine h_aload_n hC dL_tower_0 (i := 2) rfl (q := 2) rfl ?_
  refine h_iconst hC dL_tower_1 (v := (0 : Int32)) (by decide) ?_
  refine h_aload_n hC dL_tower_2 (i := 0) rfl (q := 0) rfl ?_
  refine h_iload_n hC dL_tower_3 (i := 1) rfl (q := 1) rfl ?_
  refine h_cVc hC cv_X11_tower wd_838 ⟨Nat.le_of_ble_eq_true rfl, Nat.le_of_ble_eq_true rfl⟩ rfl (by decide) dL_tower_4 (As := [.int v1]) (st := [.int (0 : Int32), .ref (mB E + 105)]) (ox_X11_tower hC.2.2.2.2.2.2.2.1 hW h) rfl rfl (Nat.le_of_ble_eq_true rfl) (by rw [hE.1]; exact ⟨by decide, by decide⟩) [] [] (0, 9, 12, 13) rfl (fun z hz => by cases hz) (by decide) (by decide) wd_837 (va_Nw.use rfl hC.2.2.2.1.2.2.2.2.2.1) (fun q9 => ?_)
  refine h_astore_n hC dL_tower_12 rfl rfl (by decide) (lv' := [(3, .ref q9), (0, .ref (mB E + 0)), (1, .int v1), (2, .ref (mB E + 105))]) rfl ?_
  refine h_iconst hC dL_tower_13 (v := (1 : Int32)) (by decide) ?_
  exact h_xiret hC hE rfl dL_tower_14 (by decide) (by decide) ⟨rfl, rfl, rfl, rfl, rfl, rfl⟩
def mL_count : mMt := (yL_count, cL_count, 4, some .int, 13, 281)
set_option maxRecDepth 20000 in
theorem ow_count_r {l : Launch} {E : mEn} {Fu : Nat} {I : mIT} {R : mRT} {L : mLT} {v1 : Int32} (hst : l.stackTraces = false) (hW : mWd R) {o : Int32 × mIT} (h : f_X11_count Fu R I v1 = some (.inl o)) : mOw l E mL_count [(0, 9, 12, 18)] [.ref (mB E + 0), .int v1, .ref (mB E + 105)] 106 1 I R L 1 6 (mSame (some (.int 0)) 106 1 (o.2) R (mUL L 105 0 (o.1).toInt64)) := by
  refine mOw_of hst (by decide) (Nat.le_of_ble_eq_true rfl) (fun X hC hE _ => ?_)
  have hC : mD X E mL_count RL cL_count [(0, 9, 12, 18)] := hC
  show mG X E 0 [(0, .ref (mB E + 0)), (1, .int v1), (2, .ref (mB E + 105))] [] 106 1 I R L 0 0
  refine h_aload_n hC dL_count_0 (i := 2) rfl (q := 2) rfl ?_
  refine h_iconst hC dL_count_1 (v := (0 : Int32)) (by decide) ?_
  refine h_aload_n hC dL_count_2 (i := 0) rfl (q := 0) rfl ?_
  refine h_iload_n hC dL_count_3 (i := 1) rfl (q := 1) rfl ?_
  refine h_cV1 hC cv_X11_count wd_1142 ⟨Nat.le_of_ble_eq_true rfl, Nat.le_of_ble_eq_true rfl⟩ rfl (by decide) dL_count_4 (As := [.int v1]) (st := [.int (0 : Int32), .ref (mB E + 105)]) (oi_X11_count hC.2.2.2.2.2.2.2.1 hW h) rfl rfl (Nat.le_of_ble_eq_true rfl) (by rw [hE.1]; exact ⟨by decide, by decide⟩) ?_
  refine h_i2l hC dL_count_7 ?_
  refine h_last hC (len := 1) rfl (by decide) (inB_in (by decide)) dL_count_8 (nm_e ?_)
  refine h_goto hC dL_count_9 (tgt := 15) (by decide) ?_
  refine h_iconst hC dL_count_15 (v := (0 : Int32)) (by decide) ?_
  exact h_xiret hC hE rfl dL_count_16 (by decide) (by decide) ⟨rfl, rfl, rfl, rfl, rfl, rfl⟩
set_option maxRecDepth 20000 in
theorem ow_count_t1 {l : Launch} {E : mEn} {Fu : Nat} {I : mIT} {R : mRT} {L : mLT} {v1 : Int32} (hst : l.stackTraces = false) (hW : mWd R) {I1 : mIT} (h : f_X11_count Fu R I v1 = some (.inr (1, I1))) : mOw l E mL_count [(0, 9, 12, 18)] [.ref (mB E + 0), .int v1, .ref (mB E + 105)] 106 1 I R L 1 6 (mSame (some (.int 1)) 106 1 I1 R L) := by
  refine mOw_of hst (by decide) (Nat.le_of_ble_eq_true rfl) (fun X hC hE _ => ?_)
  have hC : mD X E mL_count RL cL_count [(0, 9, 12, 18)] := hC
  show mG X E 0 [(0, .ref (mB E + 0)), (1, .int v1), (2, .ref (mB E + 105))] [] 106 1 I R L 0 0
  refine h_aload_n hC dL_count_0 (i := 2) rfl (q := 2) rfl ?_
  refine h_iconst hC dL_count_1 (v := (0 : Int32)) (by decide) ?_
  refine h_aload_n hC dL_count_2 (i := 0) rfl (q := 0) rfl ?_
  refine h_iload_n hC dL_count_3 (i := 1) rfl (q := 1) rfl ?_
  refine h_cVc hC cv_X11_count wd_1142 ⟨Nat.le_of_ble_eq_true rfl, Nat.le_of_ble_eq_true rfl⟩ rfl (by decide) dL_count_4 (As := [.int v1]) (st := [.int (0 : Int32), .ref (mB E + 105)]) (ox_X11_count hC.2.2.2.2.2.2.2.1 hW h) rfl rfl (Nat.le_of_ble_eq_true rfl) (by rw [hE.1]; exact ⟨by decide, by decide⟩) [] [] (0, 9, 12, 18) rfl (fun z hz => by cases hz) (by decide) (by decide) wd_1141 (va_Nw.use rfl hC.2.2.2.1.2.2.2.2.2.2.1) (fun q9 => ?_)
  refine h_astore_n hC dL_count_12 rfl rfl (by decide) (lv' := [(3, .ref q9), (0, .ref (mB E + 0)), (1, .int v1), (2, .ref (mB E + 105))]) rfl ?_
  refine h_iconst hC dL_count_13 (v := (1 : Int32)) (by decide) ?_
  exact h_xiret hC hE rfl dL_count_14 (by decide) (by decide) ⟨rfl, rfl, rfl, rfl, rfl, rfl⟩
def mL_root : mMt := (yL_root, cL_root, 5, some .int, 13, 281)
set_option maxRecDepth 20000 in
theorem ow_root_r {l : Launch} {E : mEn} {Fu : Nat} {I : mIT} {R : mRT} {L : mLT} {v1 : Int32} {v2 : Int32} (hst : l.stackTraces = false) (hW : mWd R) {o : Int32 × mIT} (h : f_X11_root Fu R I v1 v2 = some (.inl o)) : mOw l E mL_root [(0, 10, 13, 18)] [.ref (mB E + 0), .int v1, .int v2, .ref (mB E + 105)] 106 1 I R L 1 6 (mSame (some (.int 0)) 106 1 (o.2) R (mUL L 105 0 (o.1).toInt64)) := by
  refine mOw_of hst (by decide) (Nat.le_of_ble_eq_true rfl) (fun X hC hE _ => ?_)
  have hC : mD X E mL_root RL cL_root [(0, 10, 13, 18)] := hC
  show mG X E 0 [(0, .ref (mB E + 0)), (1, .int v1), (2, .int v2), (3, .ref (mB E + 105))] [] 106 1 I R L 0 0
  refine h_aload_n hC dL_root_0 (i := 3) rfl (q := 3) rfl ?_
  refine h_iconst hC dL_root_1 (v := (0 : Int32)) (by decide) ?_
  refine h_aload_n hC dL_root_2 (i := 0) rfl (q := 0) rfl ?_
  refine h_iload_n hC dL_root_3 (i := 1) rfl (q := 1) rfl ?_
  refine h_iload_n hC dL_root_4 (i := 2) rfl (q := 2) rfl ?_
  refine h_cV1 hC cv_X11_root wd_1179 ⟨Nat.le_of_ble_eq_true rfl, Nat.le_of_ble_eq_true rfl⟩ rfl (by decide) dL_root_5 (As := [.int v1, .int v2]) (st := [.int (0 : Int32), .ref (mB E + 105)]) (oi_X11_root hC.2.2.2.2.2.2.2.1 hW h) rfl rfl (Nat.le_of_ble_eq_true rfl) (by rw [hE.1]; exact ⟨by decide, by decide⟩) ?_
  refine h_i2l hC dL_root_8 ?_
  refine h_last hC (len := 1) rfl (by decide) (inB_in (by decide)) dL_root_9 (nm_e ?_)
  refine h_goto hC dL_root_10 (tgt := 17) (by decide) ?_
  refine h_iconst hC dL_root_17 (v := (0 : Int32)) (by decide) ?_
  exact h_xiret hC hE rfl dL_root_18 (by decide) (by decide) ⟨rfl, rfl, rfl, rfl, rfl, rfl⟩
set_option maxRecDepth 20000 in
theorem ow_root_t1 {l : Launch} {E : mEn} {Fu : Nat} {I : mIT} {R : mRT} {L : mLT} {v1 : Int32} {v2 : Int32} (hst : l.stackTraces = false) (hW : mWd R) {I1 : mIT} (h : f_X11_root Fu R I v1 v2 = some (.inr (1, I1))) : mOw l E mL_root [(0, 10, 13, 18)] [.ref (mB E + 0), .int v1, .int v2, .ref (mB E + 105)] 106 1 I R L 1 6 (mSame (some (.int 1)) 106 1 I1 R L) := by
  refine mOw_of hst (by decide) (Nat.le_of_ble_eq_true rfl) (fun X hC hE _ => ?_)
  have hC : mD X E mL_root RL cL_root [(0, 10, 13, 18)] := hC
  show mG X E 0 [(0, .ref (mB E + 0)), (1, .int v1), (2, .int v2), (3, .ref (mB E + 105))] [] 106 1 I R L 0 0
  refine h_aload_n hC dL_root_0 (i := 3) rfl (q := 3) rfl ?_
  refine h_iconst hC dL_root_1 (v := (0 : Int32)) (by decide) ?_
  refine h_aload_n hC dL_root_2 (i := 0) rfl (q := 0) rfl ?_
  refine h_iload_n hC dL_root_3 (i := 1) rfl (q := 1) rfl ?_
  refine h_iload_n hC dL_root_4 (i := 2) rfl (q := 2) rfl ?_
  refine h_cVc hC cv_X11_root wd_1179 ⟨Nat.le_of_ble_eq_true rfl, Nat.le_of_ble_eq_true rfl⟩ rfl (by decide) dL_root_5 (As := [.int v1, .int v2]) (st := [.int (0 : Int32), .ref (mB E + 105)]) (ox_X11_root hC.2.2.2.2.2.2.2.1 hW h) rfl rfl (Nat.le_of_ble_eq_true rfl) (by rw [hE.1]; exact ⟨by decide, by decide⟩) [] [] (0, 10, 13, 18) rfl (fun z hz => by cases hz) (by decide) (by decide) wd_1141 (va_Nw.use rfl hC.2.2.2.1.2.2.2.2.2.2.1) (fun q9 => ?_)
  refine h_astore hC dL_root_13 rfl (by decide) (lv' := [(4, .ref q9), (0, .ref (mB E + 0)), (1, .int v1), (2, .int v2), (3, .ref (mB E + 105))]) rfl ?_
  refine h_iconst hC dL_root_15 (v := (1 : Int32)) (by decide) ?_
  exact h_xiret hC hE rfl dL_root_16 (by decide) (by decide) ⟨rfl, rfl, rfl, rfl, rfl, rfl⟩
def mL_hook : mMt := (yL_hook, cL_hook, 4, some .int, 13, 281)
set_option maxRecDepth 20000 in
theorem ow_hook_r {l : Launch} {E : mEn} {Fu : Nat} {I : mIT} {R : mRT} {L : mLT} {v1 : Int32} (hst : l.stackTraces = false) (hW : mWd R) {o : Int32} (h : f_X11_hook Fu R I v1 = some (.inl o)) : mOw l E mL_hook [(0, 9, 12, 18)] [.ref (mB E + 0), .int v1, .ref (mB E + 105)] 106 1 I R L 1 6 (mSame (some (.int 0)) 106 1 I R (mUL L 105 0 (o).toInt64)) := by
  refine mOw_of hst (by decide) (Nat.le_of_ble_eq_true rfl) (fun X hC hE _ => ?_)
  have hC : mD X E mL_hook RL cL_hook [(0, 9, 12, 18)] := hC
  show mG X E 0 [(0, .ref (mB E + 0)), (1, .int v1), (2, .ref (mB E + 105))] [] 106 1 I R L 0 0
  refine h_aload_n hC dL_hook_0 (i := 2) rfl (q := 2) rfl ?_
  refine h_iconst hC dL_hook_1 (v := (0 : Int32)) (by decide) ?_
  refine h_aload_n hC dL_hook_2 (i := 0) rfl (q := 0) rfl ?_
  refine h_iload_n hC dL_hook_3 (i := 1) rfl (q := 1) rfl ?_
  refine h_cV1 hC cv_X11_hook wd_1201 ⟨Nat.le_of_ble_eq_true rfl, Nat.le_of_ble_eq_true rfl⟩ rfl (by decide) dL_hook_4 (As := [.int v1]) (st := [.int (0 : Int32), .ref (mB E + 105)]) (oi_X11_hook hC.2.2.2.2.2.2.2.1 hW h) rfl rfl (Nat.le_of_ble_eq_true rfl) (by rw [hE.1]; exact ⟨by decide, by decide⟩) ?_
  refine h_i2l hC dL_hook_7 ?_
  refine h_last hC (len := 1) rfl (by decide) (inB_in (by decide)) dL_hook_8 (nm_e ?_)
  refine h_goto hC dL_hook_9 (tgt := 15) (by decide) ?_
  refine h_iconst hC dL_hook_15 (v := (0 : Int32)) (by decide) ?_
  exact h_xiret hC hE rfl dL_hook_16 (by decide) (by decide) ⟨rfl, rfl, rfl, rfl, rfl, rfl⟩
set_option maxRecDepth 20000 in
theorem ow_hook_t1 {l : Launch} {E : mEn} {Fu : Nat} {I : mIT} {R : mRT} {L : mLT} {v1 : Int32} (hst : l.stackTraces = false) (hW : mWd R) {I1 : mIT} (h : f_X11_hook Fu R I v1 = some (.inr (1, I1))) : mOw l E mL_hook [(0, 9, 12, 18)] [.ref (mB E + 0), .int v1, .ref (mB E + 105)] 106 1 I R L 1 6 (mSame (some (.int 1)) 106 1 I1 R L) := by
  refine mOw_of hst (by decide) (Nat.le_of_ble_eq_true rfl) (fun X hC hE _ => ?_)
  have hC : mD X E mL_hook RL cL_hook [(0, 9, 12, 18)] := hC
  show mG X E 0 [(0, .ref (mB E + 0)), (1, .int v1), (2, .ref (mB E + 105))] [] 106 1 I R L 0 0
  refine h_aload_n hC dL_hook_0 (i := 2) rfl (q := 2) rfl ?_
  refine h_iconst hC dL_hook_1 (v := (0 : Int32)) (by decide) ?_
  refine h_aload_n hC dL_hook_2 (i := 0) rfl (q := 0) rfl ?_
  refine h_iload_n hC dL_hook_3 (i := 1) rfl (q := 1) rfl ?_
  refine h_cVc hC cv_X11_hook wd_1201 ⟨Nat.le_of_ble_eq_true rfl, Nat.le_of_ble_eq_true rfl⟩ rfl (by decide) dL_hook_4 (As := [.int v1]) (st := [.int (0 : Int32), .ref (mB E + 105)]) (ox_X11_hook hC.2.2.2.2.2.2.2.1 hW h) rfl rfl (Nat.le_of_ble_eq_true rfl) (by rw [hE.1]; exact ⟨by decide, by decide⟩) [] [] (0, 9, 12, 18) rfl (fun z hz => by cases hz) (by decide) (by decide) wd_1141 (va_Nw.use rfl hC.2.2.2.1.2.2.2.2.2.2.1) (fun q9 => ?_)
  refine h_astore_n hC dL_hook_12 rfl rfl (by decide) (lv' := [(3, .ref q9), (0, .ref (mB E + 0)), (1, .int v1), (2, .ref (mB E + 105))]) rfl ?_
  refine h_iconst hC dL_hook_13 (v := (1 : Int32)) (by decide) ?_
  exact h_xiret hC hE rfl dL_hook_14 (by decide) (by decide) ⟨rfl, rfl, rfl, rfl, rfl, rfl⟩
def mL_tune : mMt := (yL_tune, cL_tune, 4, some .int, 13, 281)
set_option maxRecDepth 20000 in
theorem ow_tune_r {l : Launch} {E : mEn} {Fu : Nat} {I : mIT} {R : mRT} {L : mLT} {v1 : Int32} (hst : l.stackTraces = false) (hW : mWd R) {o : Int32} (h : f_X11_tune Fu R I v1 = some (.inl o)) : mOw l E mL_tune [(0, 9, 12, 18)] [.ref (mB E + 0), .int v1, .ref (mB E + 105)] 106 1 I R L 1 6 (mSame (some (.int 0)) 106 1 I R (mUL L 105 0 (o).toInt64)) := by
  refine mOw_of hst (by decide) (Nat.le_of_ble_eq_true rfl) (fun X hC hE _ => ?_)
  have hC : mD X E mL_tune RL cL_tune [(0, 9, 12, 18)] := hC
  show mG X E 0 [(0, .ref (mB E + 0)), (1, .int v1), (2, .ref (mB E + 105))] [] 106 1 I R L 0 0
  refine h_aload_n hC dL_tune_0 (i := 2) rfl (q := 2) rfl ?_
  refine h_iconst hC dL_tune_1 (v := (0 : Int32)) (by decide) ?_
  refine h_aload_n hC dL_tune_2 (i := 0) rfl (q := 0) rfl ?_
  refine h_iload_n hC dL_tune_3 (i := 1) rfl (q := 1) rfl ?_
  refine h_cV1 hC cv_X11_tune wd_1214 ⟨Nat.le_of_ble_eq_true rfl, Nat.le_of_ble_eq_true rfl⟩ rfl (by decide) dL_tune_4 (As := [.int v1]) (st := [.int (0 : Int32), .ref (mB E + 105)]) (oi_X11_tune hC.2.2.2.2.2.2.2.1 hW h) rfl rfl (Nat.le_of_ble_eq_true rfl) (by rw [hE.1]; exact ⟨by decide, by decide⟩) ?_
  refine h_i2l hC dL_tune_7 ?_
  refine h_last hC (len := 1) rfl (by decide) (inB_in (by decide)) dL_tune_8 (nm_e ?_)
  refine h_goto hC dL_tune_9 (tgt := 15) (by decide) ?_
  refine h_iconst hC dL_tune_15 (v := (0 : Int32)) (by decide) ?_
  exact h_xiret hC hE rfl dL_tune_16 (by decide) (by decide) ⟨rfl, rfl, rfl, rfl, rfl, rfl⟩
set_option maxRecDepth 20000 in
theorem ow_tune_t1 {l : Launch} {E : mEn} {Fu : Nat} {I : mIT} {R : mRT} {L : mLT} {v1 : Int32} (hst : l.stackTraces = false) (hW : mWd R) {I1 : mIT} (h : f_X11_tune Fu R I v1 = some (.inr (1, I1))) : mOw l E mL_tune [(0, 9, 12, 18)] [.ref (mB E + 0), .int v1, .ref (mB E + 105)] 106 1 I R L 1 6 (mSame (some (.int 1)) 106 1 I1 R L) := by
  refine mOw_of hst (by decide) (Nat.le_of_ble_eq_true rfl) (fun X hC hE _ => ?_)
  have hC : mD X E mL_tune RL cL_tune [(0, 9, 12, 18)] := hC
  show mG X E 0 [(0, .ref (mB E + 0)), (1, .int v1), (2, .ref (mB E + 105))] [] 106 1 I R L 0 0
  refine h_aload_n hC dL_tune_0 (i := 2) rfl (q := 2) rfl ?_
  refine h_iconst hC dL_tune_1 (v := (0 : Int32)) (by decide) ?_
  refine h_aload_n hC dL_tune_2 (i := 0) rfl (q := 0) rfl ?_
  refine h_iload_n hC dL_tune_3 (i := 1) rfl (q := 1) rfl ?_
  refine h_cVc hC cv_X11_tune wd_1214 ⟨Nat.le_of_ble_eq_true rfl, Nat.le_of_ble_eq_true rfl⟩ rfl (by decide) dL_tune_4 (As := [.int v1]) (st := [.int (0 : Int32), .ref (mB E + 105)]) (ox_X11_tune hC.2.2.2.2.2.2.2.1 hW h) rfl rfl (Nat.le_of_ble_eq_true rfl) (by rw [hE.1]; exact ⟨by decide, by decide⟩) [] [] (0, 9, 12, 18) rfl (fun z hz => by cases hz) (by decide) (by decide) wd_1141 (va_Nw.use rfl hC.2.2.2.1.2.2.2.2.2.2.1) (fun q9 => ?_)
  refine h_astore_n hC dL_tune_12 rfl rfl (by decide) (lv' := [(3, .ref q9), (0, .ref (mB E + 0)), (1, .int v1), (2, .ref (mB E + 105))]) rfl ?_
  refine h_iconst hC dL_tune_13 (v := (1 : Int32)) (by decide) ?_
  exact h_xiret hC hE rfl dL_tune_14 (by decide) (by decide) ⟨rfl, rfl, rfl, rfl, rfl, rfl⟩
def mL_change : mMt := (yL_change, cL_change, 4, some .int, 13, 281)
set_option maxRecDepth 20000 in
theorem ow_change_r {l : Launch} {E : mEn} {Fu : Nat} {I : mIT} {R : mRT} {L : mLT} {v1 : Int32} (hst : l.stackTraces = false) (hW : mWd R) {o : Int32} (h : f_X11_change Fu R I v1 = some (.inl o)) : mOw l E mL_change [(0, 9, 12, 18)] [.ref (mB E + 0), .int v1, .ref (mB E + 105)] 106 1 I R L 1 6 (mSame (some (.int 0)) 106 1 I R (mUL L 105 0 (o).toInt64)) := by
  refine mOw_of hst (by decide) (Nat.le_of_ble_eq_true rfl) (fun X hC hE _ => ?_)
  have hC : mD X E mL_change RL cL_change [(0, 9, 12, 18)] := hC
  show mG X E 0 [(0, .ref (mB E + 0)), (1, .int v1), (2, .ref (mB E + 105))] [] 106 1 I R L 0 0
  refine h_aload_n hC dL_change_0 (i := 2) rfl (q := 2) rfl ?_
  refine h_iconst hC dL_change_1 (v := (0 : Int32)) (by decide) ?_
  refine h_aload_n hC dL_change_2 (i := 0) rfl (q := 0) rfl ?_
  refine h_iload_n hC dL_change_3 (i := 1) rfl (q := 1) rfl ?_
  refine h_cV1 hC cv_X11_change wd_1226 ⟨Nat.le_of_ble_eq_true rfl, Nat.le_of_ble_eq_true rfl⟩ rfl (by decide) dL_change_4 (As := [.int v1]) (st := [.int (0 : Int32), .ref (mB E + 105)]) (oi_X11_change hC.2.2.2.2.2.2.2.1 hW h) rfl rfl (Nat.le_of_ble_eq_true rfl) (by rw [hE.1]; exact ⟨by decide, by decide⟩) ?_
  refine h_i2l hC dL_change_7 ?_
  refine h_last hC (len := 1) rfl (by decide) (inB_in (by decide)) dL_change_8 (nm_e ?_)
  refine h_goto hC dL_change_9 (tgt := 15) (by decide) ?_
  refine h_iconst hC dL_change_15 (v := (0 : Int32)) (by decide) ?_
  exact h_xiret hC hE rfl dL_change_16 (by decide) (by decide) ⟨rfl, rfl, rfl, rfl, rfl, rfl⟩
set_option maxRecDepth 20000 in
theorem ow_change_t1 {l : Launch} {E : mEn} {Fu : Nat} {I : mIT} {R : mRT} {L : mLT} {v1 : Int32} (hst : l.stackTraces = false) (hW : mWd R) {I1 : mIT} (h : f_X11_change Fu R I v1 = some (.inr (1, I1))) : mOw l E mL_change [(0, 9, 12, 18)] [.ref (mB E + 0), .int v1, .ref (mB E + 105)] 106 1 I R L 1 6 (mSame (some (.int 1)) 106 1 I1 R L) := by
  refine mOw_of hst (by decide) (Nat.le_of_ble_eq_true rfl) (fun X hC hE _ => ?_)
  have hC : mD X E mL_change RL cL_change [(0, 9, 12, 18)] := hC
  show mG X E 0 [(0, .ref (mB E + 0)), (1, .int v1), (2, .ref (mB E + 105))] [] 106 1 I R L 0 0
  refine h_aload_n hC dL_change_0 (i := 2) rfl (q := 2) rfl ?_
  refine h_iconst hC dL_change_1 (v := (0 : Int32)) (by decide) ?_
  refine h_aload_n hC dL_change_2 (i := 0) rfl (q := 0) rfl ?_
  refine h_iload_n hC dL_change_3 (i := 1) rfl (q := 1) rfl ?_
  refine h_cVc hC cv_X11_change wd_1226 ⟨Nat.le_of_ble_eq_true rfl, Nat.le_of_ble_eq_true rfl⟩ rfl (by decide) dL_change_4 (As := [.int v1]) (st := [.int (0 : Int32), .ref (mB E + 105)]) (ox_X11_change hC.2.2.2.2.2.2.2.1 hW h) rfl rfl (Nat.le_of_ble_eq_true rfl) (by rw [hE.1]; exact ⟨by decide, by decide⟩) [] [] (0, 9, 12, 18) rfl (fun z hz => by cases hz) (by decide) (by decide) wd_1141 (va_Nw.use rfl hC.2.2.2.1.2.2.2.2.2.2.1) (fun q9 => ?_)
  refine h_astore_n hC dL_change_12 rfl rfl (by decide) (lv' := [(3, .ref q9), (0, .ref (mB E + 0)), (1, .int v1), (2, .ref (mB E + 105))]) rfl ?_
  refine h_iconst hC dL_change_13 (v := (1 : Int32)) (by decide) ?_
  exact h_xiret hC hE rfl dL_change_14 (by decide) (by decide) ⟨rfl, rfl, rfl, rfl, rfl, rfl⟩
def mL_hang : mMt := (yL_hang, cL_hang, 5, some .int, 13, 281)
set_option maxRecDepth 20000 in
theorem ow_hang_r {l : Launch} {E : mEn} {Fu : Nat} {I : mIT} {R : mRT} {L : mLT} {v1 : Int32} {v2 : Int32} (hst : l.stackTraces = false) (hW : mWd R) {o : Int32 × mIT} (h : f_X11_hang Fu R I v1 v2 = some (.inl o)) : mOw l E mL_hang [(0, 10, 13, 18)] [.ref (mB E + 0), .int v1, .int v2, .ref (mB E + 105)] 106 1 I R L 1 6 (mSame (some (.int 0)) 106 1 (o.2) R (mUL L 105 0 (o.1).toInt64)) := by
  refine mOw_of hst (by decide) (Nat.le_of_ble_eq_true rfl) (fun X hC hE _ => ?_)
  have hC : mD X E mL_hang RL cL_hang [(0, 10, 13, 18)] := hC
  show mG X E 0 [(0, .ref (mB E + 0)), (1, .int v1), (2, .int v2), (3, .ref (mB E + 105))] [] 106 1 I R L 0 0
  refine h_aload_n hC dL_hang_0 (i := 3) rfl (q := 3) rfl ?_
  refine h_iconst hC dL_hang_1 (v := (0 : Int32)) (by decide) ?_
  refine h_aload_n hC dL_hang_2 (i := 0) rfl (q := 0) rfl ?_
  refine h_iload_n hC dL_hang_3 (i := 1) rfl (q := 1) rfl ?_
  refine h_iload_n hC dL_hang_4 (i := 2) rfl (q := 2) rfl ?_
  refine h_cV1 hC cv_X11_hang wd_1239 ⟨Nat.le_of_ble_eq_true rfl, Nat.le_of_ble_eq_true rfl⟩ rfl (by decide) dL_hang_5 (As := [.int v1, .int v2]) (st := [.int (0 : Int32), .ref (mB E + 105)]) (oi_X11_hang hC.2.2.2.2.2.2.2.1 hW h) rfl rfl (Nat.le_of_ble_eq_true rfl) (by rw [hE.1]; exact ⟨by decide, by decide⟩) ?_
  refine h_i2l hC dL_hang_8 ?_
  refine h_last hC (len := 1) rfl (by decide) (inB_in (by decide)) dL_hang_9 (nm_e ?_)
  refine h_goto hC dL_hang_10 (tgt := 17) (by decide) ?_
  refine h_iconst hC dL_hang_17 (v := (0 : Int32)) (by decide) ?_
  exact h_xiret hC hE rfl dL_hang_18 (by decide) (by decide) ⟨rfl, rfl, rfl, rfl, rfl, rfl⟩
set_option maxRecDepth 20000 in
theorem ow_hang_t1 {l : Launch} {E : mEn} {Fu : Nat} {I : mIT} {R : mRT} {L : mLT} {v1 : Int32} {v2 : Int32} (hst : l.stackTraces = false) (hW : mWd R) {I1 : mIT} (h : f_X11_hang Fu R I v1 v2 = some (.inr (1, I1))) : mOw l E mL_hang [(0, 10, 13, 18)] [.ref (mB E + 0), .int v1, .int v2, .ref (mB E + 105)] 106 1 I R L 1 6 (mSame (some (.int 1)) 106 1 I1 R L) := by
  refine mOw_of hst (by decide) (Nat.le_of_ble_eq_true rfl) (fun X hC hE _ => ?_)
  have hC : mD X E mL_hang RL cL_hang [(0, 10, 13, 18)] := hC
  show mG X E 0 [(0, .ref (mB E + 0)), (1, .int v1), (2, .int v2), (3, .ref (mB E + 105))] [] 106 1 I R L 0 0
  refine h_aload_n hC dL_hang_0 (i := 3) rfl (q := 3) rfl ?_
  refine h_iconst hC dL_hang_1 (v := (0 : Int32)) (by decide) ?_
  refine h_aload_n hC dL_hang_2 (i := 0) rfl (q := 0) rfl ?_
  refine h_iload_n hC dL_hang_3 (i := 1) rfl (q := 1) rfl ?_
  refine h_iload_n hC dL_hang_4 (i := 2) rfl (q := 2) rfl ?_
  refine h_cVc hC cv_X11_hang wd_1239 ⟨Nat.le_of_ble_eq_true rfl, Nat.le_of_ble_eq_true rfl⟩ rfl (by decide) dL_hang_5 (As := [.int v1, .int v2]) (st := [.int (0 : Int32), .ref (mB E + 105)]) (ox_X11_hang hC.2.2.2.2.2.2.2.1 hW h) rfl rfl (Nat.le_of_ble_eq_true rfl) (by rw [hE.1]; exact ⟨by decide, by decide⟩) [] [] (0, 10, 13, 18) rfl (fun z hz => by cases hz) (by decide) (by decide) wd_1141 (va_Nw.use rfl hC.2.2.2.1.2.2.2.2.2.2.1) (fun q9 => ?_)
  refine h_astore hC dL_hang_13 rfl (by decide) (lv' := [(4, .ref q9), (0, .ref (mB E + 0)), (1, .int v1), (2, .int v2), (3, .ref (mB E + 105))]) rfl ?_
  refine h_iconst hC dL_hang_15 (v := (1 : Int32)) (by decide) ?_
  exact h_xiret hC hE rfl dL_hang_16 (by decide) (by decide) ⟨rfl, rfl, rfl, rfl, rfl, rfl⟩
def mL_take : mMt := (yL_take, cL_take, 4, some .int, 13, 281)
set_option maxRecDepth 20000 in
theorem ow_take_r {l : Launch} {E : mEn} {Fu : Nat} {I : mIT} {R : mRT} {L : mLT} {v1 : Int32} (hst : l.stackTraces = false) (hW : mWd R) {o : Int32 × mIT} (h : f_X11_take Fu R I v1 = some (.inl o)) : mOw l E mL_take [(0, 9, 12, 18)] [.ref (mB E + 0), .int v1, .ref (mB E + 105)] 106 1 I R L 1 6 (mSame (some (.int 0)) 106 1 (o.2) R (mUL L 105 0 (o.1).toInt64)) := by
  refine mOw_of hst (by decide) (Nat.le_of_ble_eq_true rfl) (fun X hC hE _ => ?_)
  have hC : mD X E mL_take RL cL_take [(0, 9, 12, 18)] := hC
  show mG X E 0 [(0, .ref (mB E + 0)), (1, .int v1), (2, .ref (mB E + 105))] [] 106 1 I R L 0 0
  refine h_aload_n hC dL_take_0 (i := 2) rfl (q := 2) rfl ?_
  refine h_iconst hC dL_take_1 (v := (0 : Int32)) (by decide) ?_
  refine h_aload_n hC dL_take_2 (i := 0) rfl (q := 0) rfl ?_
  refine h_iload_n hC dL_take_3 (i := 1) rfl (q := 1) rfl ?_
  refine h_cV1 hC cv_X11_take wd_1250 ⟨Nat.le_of_ble_eq_true rfl, Nat.le_of_ble_eq_true rfl⟩ rfl (by decide) dL_take_4 (As := [.int v1]) (st := [.int (0 : Int32), .ref (mB E + 105)]) (oi_X11_take hC.2.2.2.2.2.2.2.1 hW h) rfl rfl (Nat.le_of_ble_eq_true rfl) (by rw [hE.1]; exact ⟨by decide, by decide⟩) ?_
  refine h_i2l hC dL_take_7 ?_
  refine h_last hC (len := 1) rfl (by decide) (inB_in (by decide)) dL_take_8 (nm_e ?_)
  refine h_goto hC dL_take_9 (tgt := 15) (by decide) ?_
  refine h_iconst hC dL_take_15 (v := (0 : Int32)) (by decide) ?_
  exact h_xiret hC hE rfl dL_take_16 (by decide) (by decide) ⟨rfl, rfl, rfl, rfl, rfl, rfl⟩
set_option maxRecDepth 20000 in
theorem ow_take_t1 {l : Launch} {E : mEn} {Fu : Nat} {I : mIT} {R : mRT} {L : mLT} {v1 : Int32} (hst : l.stackTraces = false) (hW : mWd R) {I1 : mIT} (h : f_X11_take Fu R I v1 = some (.inr (1, I1))) : mOw l E mL_take [(0, 9, 12, 18)] [.ref (mB E + 0), .int v1, .ref (mB E + 105)] 106 1 I R L 1 6 (mSame (some (.int 1)) 106 1 I1 R L) := by
  refine mOw_of hst (by decide) (Nat.le_of_ble_eq_true rfl) (fun X hC hE _ => ?_)
  have hC : mD X E mL_take RL cL_take [(0, 9, 12, 18)] := hC
  show mG X E 0 [(0, .ref (mB E + 0)), (1, .int v1), (2, .ref (mB E + 105))] [] 106 1 I R L 0 0
  refine h_aload_n hC dL_take_0 (i := 2) rfl (q := 2) rfl ?_
  refine h_iconst hC dL_take_1 (v := (0 : Int32)) (by decide) ?_
  refine h_aload_n hC dL_take_2 (i := 0) rfl (q := 0) rfl ?_
  refine h_iload_n hC dL_take_3 (i := 1) rfl (q := 1) rfl ?_
  refine h_cVc hC cv_X11_take wd_1250 ⟨Nat.le_of_ble_eq_true rfl, Nat.le_of_ble_eq_true rfl⟩ rfl (by decide) dL_take_4 (As := [.int v1]) (st := [.int (0 : Int32), .ref (mB E + 105)]) (ox_X11_take hC.2.2.2.2.2.2.2.1 hW h) rfl rfl (Nat.le_of_ble_eq_true rfl) (by rw [hE.1]; exact ⟨by decide, by decide⟩) [] [] (0, 9, 12, 18) rfl (fun z hz => by cases hz) (by decide) (by decide) wd_1141 (va_Nw.use rfl hC.2.2.2.1.2.2.2.2.2.2.1) (fun q9 => ?_)
  refine h_astore_n hC dL_take_12 rfl rfl (by decide) (lv' := [(3, .ref q9), (0, .ref (mB E + 0)), (1, .int v1), (2, .ref (mB E + 105))]) rfl ?_
  refine h_iconst hC dL_take_13 (v := (1 : Int32)) (by decide) ?_
  exact h_xiret hC hE rfl dL_take_14 (by decide) (by decide) ⟨rfl, rfl, rfl, rfl, rfl, rfl⟩
def mL_hollow : mMt := (yL_hollow, cL_hollow, 5, some .int, 13, 281)
set_option maxRecDepth 20000 in
theorem ow_hollow_r {l : Launch} {E : mEn} {Fu : Nat} {I : mIT} {R : mRT} {L : mLT} {v1 : Int32} {v2 : Int32} (hst : l.stackTraces = false) (hW : mWd R) {o : Int32 × mIT} (h : f_X11_hollow Fu R I v1 v2 = some (.inl o)) : mOw l E mL_hollow [(0, 10, 13, 18)] [.ref (mB E + 0), .int v1, .int v2, .ref (mB E + 105)] 106 1 I R L 1 6 (mSame (some (.int 0)) 106 1 (o.2) R (mUL L 105 0 (o.1).toInt64)) := by
  refine mOw_of hst (by decide) (Nat.le_of_ble_eq_true rfl) (fun X hC hE _ => ?_)
  have hC : mD X E mL_hollow RL cL_hollow [(0, 10, 13, 18)] := hC
  show mG X E 0 [(0, .ref (mB E + 0)), (1, .int v1), (2, .int v2), (3, .ref (mB E + 105))] [] 106 1 I R L 0 0
  refine h_aload_n hC dL_hollow_0 (i := 3) rfl (q := 3) rfl ?_
  refine h_iconst hC dL_hollow_1 (v := (0 : Int32)) (by decide) ?_
  refine h_aload_n hC dL_hollow_2 (i := 0) rfl (q := 0) rfl ?_
  refine h_iload_n hC dL_hollow_3 (i := 1) rfl (q := 1) rfl ?_
  refine h_iload_n hC dL_hollow_4 (i := 2) rfl (q := 2) rfl ?_
  refine h_cV1 hC cv_X11_hollow wd_1257 ⟨Nat.le_of_ble_eq_true rfl, Nat.le_of_ble_eq_true rfl⟩ rfl (by decide) dL_hollow_5 (As := [.int v1, .int v2]) (st := [.int (0 : Int32), .ref (mB E + 105)]) (oi_X11_hollow hC.2.2.2.2.2.2.2.1 hW h) rfl rfl (Nat.le_of_ble_eq_true rfl) (by rw [hE.1]; exact ⟨by decide, by decide⟩) ?_
  refine h_i2l hC dL_hollow_8 ?_
  refine h_last hC (len := 1) rfl (by decide) (inB_in (by decide)) dL_hollow_9 (nm_e ?_)
  refine h_goto hC dL_hollow_10 (tgt := 17) (by decide) ?_
  refine h_iconst hC dL_hollow_17 (v := (0 : Int32)) (by decide) ?_
  exact h_xiret hC hE rfl dL_hollow_18 (by decide) (by decide) ⟨rfl, rfl, rfl, rfl, rfl, rfl⟩
set_option maxRecDepth 20000 in
theorem ow_hollow_t1 {l : Launch} {E : mEn} {Fu : Nat} {I : mIT} {R : mRT} {L : mLT} {v1 : Int32} {v2 : Int32} (hst : l.stackTraces = false) (hW : mWd R) {I1 : mIT} (h : f_X11_hollow Fu R I v1 v2 = some (.inr (1, I1))) : mOw l E mL_hollow [(0, 10, 13, 18)] [.ref (mB E + 0), .int v1, .int v2, .ref (mB E + 105)] 106 1 I R L 1 6 (mSame (some (.int 1)) 106 1 I1 R L) := by
  refine mOw_of hst (by decide) (Nat.le_of_ble_eq_true rfl) (fun X hC hE _ => ?_)
  have hC : mD X E mL_hollow RL cL_hollow [(0, 10, 13, 18)] := hC
  show mG X E 0 [(0, .ref (mB E + 0)), (1, .int v1), (2, .int v2), (3, .ref (mB E + 105))] [] 106 1 I R L 0 0
  refine h_aload_n hC dL_hollow_0 (i := 3) rfl (q := 3) rfl ?_
  refine h_iconst hC dL_hollow_1 (v := (0 : Int32)) (by decide) ?_
  refine h_aload_n hC dL_hollow_2 (i := 0) rfl (q := 0) rfl ?_
  refine h_iload_n hC dL_hollow_3 (i := 1) rfl (q := 1) rfl ?_
  refine h_iload_n hC dL_hollow_4 (i := 2) rfl (q := 2) rfl ?_
  refine h_cVc hC cv_X11_hollow wd_1257 ⟨Nat.le_of_ble_eq_true rfl, Nat.le_of_ble_eq_true rfl⟩ rfl (by decide) dL_hollow_5 (As := [.int v1, .int v2]) (st := [.int (0 : Int32), .ref (mB E + 105)]) (ox_X11_hollow hC.2.2.2.2.2.2.2.1 hW h) rfl rfl (Nat.le_of_ble_eq_true rfl) (by rw [hE.1]; exact ⟨by decide, by decide⟩) [] [] (0, 10, 13, 18) rfl (fun z hz => by cases hz) (by decide) (by decide) wd_1141 (va_Nw.use rfl hC.2.2.2.1.2.2.2.2.2.2.1) (fun q9 => ?_)
  refine h_astore hC dL_hollow_13 rfl (by decide) (lv' := [(4, .ref q9), (0, .ref (mB E + 0)), (1, .int v1), (2, .int v2), (3, .ref (mB E + 105))]) rfl ?_
  refine h_iconst hC dL_hollow_15 (v := (1 : Int32)) (by decide) ?_
  exact h_xiret hC hE rfl dL_hollow_16 (by decide) (by decide) ⟨rfl, rfl, rfl, rfl, rfl, rfl⟩
def mL_eat : mMt := (yL_eat, cL_eat, 4, some .int, 13, 281)
set_option maxRecDepth 20000 in
theorem ow_eat_r {l : Launch} {E : mEn} {Fu : Nat} {I : mIT} {R : mRT} {L : mLT} {v1 : Int32} (hst : l.stackTraces = false) (hW : mWd R) {o : Int32 × mIT} (h : f_X11_eat Fu R I v1 = some (.inl o)) : mOw l E mL_eat [(0, 16, 19, 18)] [.ref (mB E + 0), .int v1, .ref (mB E + 105)] 106 1 I R L 1 6 (mSame (some (.int 0)) 106 1 (o.2) R (mUL L 105 0 (if o.1 = 0 then 0 else 1 : Int64))) := by
  refine mOw_of hst (by decide) (Nat.le_of_ble_eq_true rfl) (fun X hC hE _ => ?_)
  have hC : mD X E mL_eat RL cL_eat [(0, 16, 19, 18)] := hC
  show mG X E 0 [(0, .ref (mB E + 0)), (1, .int v1), (2, .ref (mB E + 105))] [] 106 1 I R L 0 0
  refine h_aload_n hC dL_eat_0 (i := 2) rfl (q := 2) rfl ?_
  refine h_iconst hC dL_eat_1 (v := (0 : Int32)) (by decide) ?_
  refine h_aload_n hC dL_eat_2 (i := 0) rfl (q := 0) rfl ?_
  refine h_iload_n hC dL_eat_3 (i := 1) rfl (q := 1) rfl ?_
  refine h_cV1 hC cv_X11_eat wd_1268 ⟨Nat.le_of_ble_eq_true rfl, Nat.le_of_ble_eq_true rfl⟩ rfl (by decide) dL_eat_4 (As := [.int v1]) (st := [.int (0 : Int32), .ref (mB E + 105)]) (oi_X11_eat hC.2.2.2.2.2.2.2.1 hW h) rfl rfl (Nat.le_of_ble_eq_true rfl) (by rw [hE.1]; exact ⟨by decide, by decide⟩) ?_
  refine h_if_eq hC dL_eat_7 (tgt := 14) (by decide) (fun c => ?_) (fun c => ?_)
  · refine h_lconst hC dL_eat_14 (v := 0) (by decide) ?_
    refine h_last hC (len := 1) rfl (by decide) (inB_in (by decide)) dL_eat_15 (nm_e ?_)
    refine h_goto hC dL_eat_16 (tgt := 22) (by decide) ?_
    refine h_iconst hC dL_eat_22 (v := (0 : Int32)) (by decide) ?_
    exact h_xiret hC hE rfl dL_eat_23 (by decide) (by decide) (by rw [if_pos c]; exact ⟨rfl, rfl, rfl, rfl, rfl, rfl⟩)
  · refine h_lconst hC dL_eat_10 (v := 1) (by decide) ?_
    refine h_goto hC dL_eat_11 (tgt := 15) (by decide) ?_
    refine h_last hC (len := 1) rfl (by decide) (inB_in (by decide)) dL_eat_15 (nm_e ?_)
    refine h_goto hC dL_eat_16 (tgt := 22) (by decide) ?_
    refine h_iconst hC dL_eat_22 (v := (0 : Int32)) (by decide) ?_
    exact h_xiret hC hE rfl dL_eat_23 (by decide) (by decide) (by rw [if_neg c]; exact ⟨rfl, rfl, rfl, rfl, rfl, rfl⟩)
set_option maxRecDepth 20000 in
theorem ow_eat_t1 {l : Launch} {E : mEn} {Fu : Nat} {I : mIT} {R : mRT} {L : mLT} {v1 : Int32} (hst : l.stackTraces = false) (hW : mWd R) {I1 : mIT} (h : f_X11_eat Fu R I v1 = some (.inr (1, I1))) : mOw l E mL_eat [(0, 16, 19, 18)] [.ref (mB E + 0), .int v1, .ref (mB E + 105)] 106 1 I R L 1 6 (mSame (some (.int 1)) 106 1 I1 R L) := by
  refine mOw_of hst (by decide) (Nat.le_of_ble_eq_true rfl) (fun X hC hE _ => ?_)
  have hC : mD X E mL_eat RL cL_eat [(0, 16, 19, 18)] := hC
  show mG X E 0 [(0, .ref (mB E + 0)), (1, .int v1), (2, .ref (mB E + 105))] [] 106 1 I R L 0 0
  refine h_aload_n hC dL_eat_0 (i := 2) rfl (q := 2) rfl ?_
  refine h_iconst hC dL_eat_1 (v := (0 : Int32)) (by decide) ?_
  refine h_aload_n hC dL_eat_2 (i := 0) rfl (q := 0) rfl ?_
  refine h_iload_n hC dL_eat_3 (i := 1) rfl (q := 1) rfl ?_
  refine h_cVc hC cv_X11_eat wd_1268 ⟨Nat.le_of_ble_eq_true rfl, Nat.le_of_ble_eq_true rfl⟩ rfl (by decide) dL_eat_4 (As := [.int v1]) (st := [.int (0 : Int32), .ref (mB E + 105)]) (ox_X11_eat hC.2.2.2.2.2.2.2.1 hW h) rfl rfl (Nat.le_of_ble_eq_true rfl) (by rw [hE.1]; exact ⟨by decide, by decide⟩) [] [] (0, 16, 19, 18) rfl (fun z hz => by cases hz) (by decide) (by decide) wd_1141 (va_Nw.use rfl hC.2.2.2.1.2.2.2.2.2.2.1) (fun q9 => ?_)
  refine h_astore_n hC dL_eat_19 rfl rfl (by decide) (lv' := [(3, .ref q9), (0, .ref (mB E + 0)), (1, .int v1), (2, .ref (mB E + 105))]) rfl ?_
  refine h_iconst hC dL_eat_20 (v := (1 : Int32)) (by decide) ?_
  exact h_xiret hC hE rfl dL_eat_21 (by decide) (by decide) ⟨rfl, rfl, rfl, rfl, rfl, rfl⟩
def mL_alter : mMt := (yL_alter, cL_alter, 5, some .int, 13, 281)
set_option maxRecDepth 20000 in
theorem ow_alter_r {l : Launch} {E : mEn} {Fu : Nat} {I : mIT} {R : mRT} {L : mLT} {v1 : Int32} {v2 : Int32} (hst : l.stackTraces = false) (hW : mWd R) {o : Int32 × mIT} (h : f_X11_alter Fu R I v1 v2 = some (.inl o)) : mOw l E mL_alter [(0, 10, 13, 18)] [.ref (mB E + 0), .int v1, .int v2, .ref (mB E + 105)] 106 1 I R L 1 6 (mSame (some (.int 0)) 106 1 (o.2) R (mUL L 105 0 (o.1).toInt64)) := by
  refine mOw_of hst (by decide) (Nat.le_of_ble_eq_true rfl) (fun X hC hE _ => ?_)
  have hC : mD X E mL_alter RL cL_alter [(0, 10, 13, 18)] := hC
  show mG X E 0 [(0, .ref (mB E + 0)), (1, .int v1), (2, .int v2), (3, .ref (mB E + 105))] [] 106 1 I R L 0 0
  refine h_aload_n hC dL_alter_0 (i := 3) rfl (q := 3) rfl ?_
  refine h_iconst hC dL_alter_1 (v := (0 : Int32)) (by decide) ?_
  refine h_aload_n hC dL_alter_2 (i := 0) rfl (q := 0) rfl ?_
  refine h_iload_n hC dL_alter_3 (i := 1) rfl (q := 1) rfl ?_
  refine h_iload_n hC dL_alter_4 (i := 2) rfl (q := 2) rfl ?_
  refine h_cV1 hC cv_X11_alter wd_1275 ⟨Nat.le_of_ble_eq_true rfl, Nat.le_of_ble_eq_true rfl⟩ rfl (by decide) dL_alter_5 (As := [.int v1, .int v2]) (st := [.int (0 : Int32), .ref (mB E + 105)]) (oi_X11_alter hC.2.2.2.2.2.2.2.1 hW h) rfl rfl (Nat.le_of_ble_eq_true rfl) (by rw [hE.1]; exact ⟨by decide, by decide⟩) ?_
  refine h_i2l hC dL_alter_8 ?_
  refine h_last hC (len := 1) rfl (by decide) (inB_in (by decide)) dL_alter_9 (nm_e ?_)
  refine h_goto hC dL_alter_10 (tgt := 17) (by decide) ?_
  refine h_iconst hC dL_alter_17 (v := (0 : Int32)) (by decide) ?_
  exact h_xiret hC hE rfl dL_alter_18 (by decide) (by decide) ⟨rfl, rfl, rfl, rfl, rfl, rfl⟩
set_option maxRecDepth 20000 in
theorem ow_alter_t1 {l : Launch} {E : mEn} {Fu : Nat} {I : mIT} {R : mRT} {L : mLT} {v1 : Int32} {v2 : Int32} (hst : l.stackTraces = false) (hW : mWd R) {I1 : mIT} (h : f_X11_alter Fu R I v1 v2 = some (.inr (1, I1))) : mOw l E mL_alter [(0, 10, 13, 18)] [.ref (mB E + 0), .int v1, .int v2, .ref (mB E + 105)] 106 1 I R L 1 6 (mSame (some (.int 1)) 106 1 I1 R L) := by
  refine mOw_of hst (by decide) (Nat.le_of_ble_eq_true rfl) (fun X hC hE _ => ?_)
  have hC : mD X E mL_alter RL cL_alter [(0, 10, 13, 18)] := hC
  show mG X E 0 [(0, .ref (mB E + 0)), (1, .int v1), (2, .int v2), (3, .ref (mB E + 105))] [] 106 1 I R L 0 0
  refine h_aload_n hC dL_alter_0 (i := 3) rfl (q := 3) rfl ?_
  refine h_iconst hC dL_alter_1 (v := (0 : Int32)) (by decide) ?_
  refine h_aload_n hC dL_alter_2 (i := 0) rfl (q := 0) rfl ?_
  refine h_iload_n hC dL_alter_3 (i := 1) rfl (q := 1) rfl ?_
  refine h_iload_n hC dL_alter_4 (i := 2) rfl (q := 2) rfl ?_
  refine h_cVc hC cv_X11_alter wd_1275 ⟨Nat.le_of_ble_eq_true rfl, Nat.le_of_ble_eq_true rfl⟩ rfl (by decide) dL_alter_5 (As := [.int v1, .int v2]) (st := [.int (0 : Int32), .ref (mB E + 105)]) (ox_X11_alter hC.2.2.2.2.2.2.2.1 hW h) rfl rfl (Nat.le_of_ble_eq_true rfl) (by rw [hE.1]; exact ⟨by decide, by decide⟩) [] [] (0, 10, 13, 18) rfl (fun z hz => by cases hz) (by decide) (by decide) wd_1141 (va_Nw.use rfl hC.2.2.2.1.2.2.2.2.2.2.1) (fun q9 => ?_)
  refine h_astore hC dL_alter_13 rfl (by decide) (lv' := [(4, .ref q9), (0, .ref (mB E + 0)), (1, .int v1), (2, .int v2), (3, .ref (mB E + 105))]) rfl ?_
  refine h_iconst hC dL_alter_15 (v := (1 : Int32)) (by decide) ?_
  exact h_xiret hC hE rfl dL_alter_16 (by decide) (by decide) ⟨rfl, rfl, rfl, rfl, rfl, rfl⟩
def mL_then : mMt := (yL_then, cL_then, 5, some .int, 13, 281)
set_option maxRecDepth 20000 in
theorem ow_then_r {l : Launch} {E : mEn} {Fu : Nat} {I : mIT} {R : mRT} {L : mLT} {v1 : Int32} {v2 : Int32} (hst : l.stackTraces = false) (hW : mWd R) {o : Int32 × mIT} (h : f_X11_then Fu R I v1 v2 = some (.inl o)) : mOw l E mL_then [(0, 10, 13, 18), (0, 10, 17, 13)] [.ref (mB E + 0), .int v1, .int v2, .ref (mB E + 105)] 106 1 I R L 1 6 (mSame (some (.int 0)) 106 1 (o.2) R (mUL L 105 0 (o.1).toInt64)) := by
  refine mOw_of hst (by decide) (Nat.le_of_ble_eq_true rfl) (fun X hC hE _ => ?_)
  have hC : mD X E mL_then RL cL_then [(0, 10, 13, 18), (0, 10, 17, 13)] := hC
  show mG X E 0 [(0, .ref (mB E + 0)), (1, .int v1), (2, .int v2), (3, .ref (mB E + 105))] [] 106 1 I R L 0 0
  refine h_aload_n hC dL_then_0 (i := 3) rfl (q := 3) rfl ?_
  refine h_iconst hC dL_then_1 (v := (0 : Int32)) (by decide) ?_
  refine h_aload_n hC dL_then_2 (i := 0) rfl (q := 0) rfl ?_
  refine h_iload_n hC dL_then_3 (i := 1) rfl (q := 1) rfl ?_
  refine h_iload_n hC dL_then_4 (i := 2) rfl (q := 2) rfl ?_
  refine h_cV1 hC cv_X11_then wd_1284 ⟨Nat.le_of_ble_eq_true rfl, Nat.le_of_ble_eq_true rfl⟩ rfl (by decide) dL_then_5 (As := [.int v1, .int v2]) (st := [.int (0 : Int32), .ref (mB E + 105)]) (oi_X11_then hC.2.2.2.2.2.2.2.1 hW h) rfl rfl (Nat.le_of_ble_eq_true rfl) (by rw [hE.1]; exact ⟨by decide, by decide⟩) ?_
  refine h_i2l hC dL_then_8 ?_
  refine h_last hC (len := 1) rfl (by decide) (inB_in (by decide)) dL_then_9 (nm_e ?_)
  refine h_goto hC dL_then_10 (tgt := 21) (by decide) ?_
  refine h_iconst hC dL_then_21 (v := (0 : Int32)) (by decide) ?_
  exact h_xiret hC hE rfl dL_then_22 (by decide) (by decide) ⟨rfl, rfl, rfl, rfl, rfl, rfl⟩
set_option maxRecDepth 20000 in
theorem ow_then_t1 {l : Launch} {E : mEn} {Fu : Nat} {I : mIT} {R : mRT} {L : mLT} {v1 : Int32} {v2 : Int32} (hst : l.stackTraces = false) (hW : mWd R) {I1 : mIT} (h : f_X11_then Fu R I v1 v2 = some (.inr (1, I1))) : mOw l E mL_then [(0, 10, 13, 18), (0, 10, 17, 13)] [.ref (mB E + 0), .int v1, .int v2, .ref (mB E + 105)] 106 1 I R L 1 6 (mSame (some (.int 1)) 106 1 I1 R L) := by
  refine mOw_of hst (by decide) (Nat.le_of_ble_eq_true rfl) (fun X hC hE _ => ?_)
  have hC : mD X E mL_then RL cL_then [(0, 10, 13, 18), (0, 10, 17, 13)] := hC
  show mG X E 0 [(0, .ref (mB E + 0)), (1, .int v1), (2, .int v2), (3, .ref (mB E + 105))] [] 106 1 I R L 0 0
  refine h_aload_n hC dL_then_0 (i := 3) rfl (q := 3) rfl ?_
  refine h_iconst hC dL_then_1 (v := (0 : Int32)) (by decide) ?_
  refine h_aload_n hC dL_then_2 (i := 0) rfl (q := 0) rfl ?_
  refine h_iload_n hC dL_then_3 (i := 1) rfl (q := 1) rfl ?_
  refine h_iload_n hC dL_then_4 (i := 2) rfl (q := 2) rfl ?_
  refine h_cVc hC cv_X11_then wd_1284 ⟨Nat.le_of_ble_eq_true rfl, Nat.le_of_ble_eq_true rfl⟩ rfl (by decide) dL_then_5 (As := [.int v1, .int v2]) (st := [.int (0 : Int32), .ref (mB E + 105)]) (ox_X11_then hC.2.2.2.2.2.2.2.1 hW h) rfl rfl (Nat.le_of_ble_eq_true rfl) (by rw [hE.1]; exact ⟨by decide, by decide⟩) [] [(0, 10, 17, 13)] (0, 10, 13, 18) rfl (fun z hz => by cases hz) (by decide) (by decide) wd_1141 (va_Nw.use rfl hC.2.2.2.1.2.2.2.2.2.2.1) (fun q9 => ?_)
  refine h_astore hC dL_then_13 rfl (by decide) (lv' := [(4, .ref q9), (0, .ref (mB E + 0)), (1, .int v1), (2, .int v2), (3, .ref (mB E + 105))]) rfl ?_
  refine h_iconst hC dL_then_15 (v := (1 : Int32)) (by decide) ?_
  exact h_xiret hC hE rfl dL_then_16 (by decide) (by decide) ⟨rfl, rfl, rfl, rfl, rfl, rfl⟩
set_option maxRecDepth 20000 in
theorem ow_then_t2 {l : Launch} {E : mEn} {Fu : Nat} {I : mIT} {R : mRT} {L : mLT} {v1 : Int32} {v2 : Int32} (hst : l.stackTraces = false) (hW : mWd R) {I1 : mIT} (h : f_X11_then Fu R I v1 v2 = some (.inr (2, I1))) : mOw l E mL_then [(0, 10, 13, 18), (0, 10, 17, 13)] [.ref (mB E + 0), .int v1, .int v2, .ref (mB E + 105)] 106 1 I R L 1 6 (mSame (some (.int 2)) 106 1 I1 R L) := by
  refine mOw_of hst (by decide) (Nat.le_of_ble_eq_true rfl) (fun X hC hE _ => ?_)
  have hC : mD X E mL_then RL cL_then [(0, 10, 13, 18), (0, 10, 17, 13)] := hC
  show mG X E 0 [(0, .ref (mB E + 0)), (1, .int v1), (2, .int v2), (3, .ref (mB E + 105))] [] 106 1 I R L 0 0
  refine h_aload_n hC dL_then_0 (i := 3) rfl (q := 3) rfl ?_
  refine h_iconst hC dL_then_1 (v := (0 : Int32)) (by decide) ?_
  refine h_aload_n hC dL_then_2 (i := 0) rfl (q := 0) rfl ?_
  refine h_iload_n hC dL_then_3 (i := 1) rfl (q := 1) rfl ?_
  refine h_iload_n hC dL_then_4 (i := 2) rfl (q := 2) rfl ?_
  refine h_cVc hC cv_X11_then wd_1284 ⟨Nat.le_of_ble_eq_true rfl, Nat.le_of_ble_eq_true rfl⟩ rfl (by decide) dL_then_5 (As := [.int v1, .int v2]) (st := [.int (0 : Int32), .ref (mB E + 105)]) (ox_X11_then hC.2.2.2.2.2.2.2.1 hW h) rfl rfl (Nat.le_of_ble_eq_true rfl) (by rw [hE.1]; exact ⟨by decide, by decide⟩) [(0, 10, 13, 18)] [] (0, 10, 17, 13) rfl (fun z hz => by
    rcases List.mem_singleton.mp hz with rfl
    exact Or.inr ⟨by decide, _, wd_1141, hC.2.2.2.2.2.2.1.2⟩) (by decide) (by decide) wd_837 (va_Nw.use rfl hC.2.2.2.1.2.2.2.2.2.1) (fun q9 => ?_)
  refine h_astore hC dL_then_17 rfl (by decide) (lv' := [(4, .ref q9), (0, .ref (mB E + 0)), (1, .int v1), (2, .int v2), (3, .ref (mB E + 105))]) rfl ?_
  refine h_iconst hC dL_then_19 (v := (2 : Int32)) (by decide) ?_
  exact h_xiret hC hE rfl dL_then_20 (by decide) (by decide) ⟨rfl, rfl, rfl, rfl, rfl, rfl⟩
def mL_goes : mMt := (yL_goes, cL_goes, 4, some .int, 13, 281)
set_option maxRecDepth 20000 in
theorem ow_goes_r {l : Launch} {E : mEn} {Fu : Nat} {I : mIT} {R : mRT} {L : mLT} {v1 : Int32} (hst : l.stackTraces = false) (hW : mWd R) {o : Int32 × mIT} (h : f_X11_goes Fu R I v1 = some (.inl o)) : mOw l E mL_goes [(0, 9, 12, 18)] [.ref (mB E + 0), .int v1, .ref (mB E + 105)] 106 1 I R L 1 6 (mSame (some (.int 0)) 106 1 (o.2) R (mUL L 105 0 (o.1).toInt64)) := by
  refine mOw_of hst (by decide) (Nat.le_of_ble_eq_true rfl) (fun X hC hE _ => ?_)
  have hC : mD X E mL_goes RL cL_goes [(0, 9, 12, 18)] := hC
  show mG X E 0 [(0, .ref (mB E + 0)), (1, .int v1), (2, .ref (mB E + 105))] [] 106 1 I R L 0 0
  refine h_aload_n hC dL_goes_0 (i := 2) rfl (q := 2) rfl ?_
  refine h_iconst hC dL_goes_1 (v := (0 : Int32)) (by decide) ?_
  refine h_aload_n hC dL_goes_2 (i := 0) rfl (q := 0) rfl ?_
  refine h_iload_n hC dL_goes_3 (i := 1) rfl (q := 1) rfl ?_
  refine h_cV1 hC cv_X11_goes wd_1297 ⟨Nat.le_of_ble_eq_true rfl, Nat.le_of_ble_eq_true rfl⟩ rfl (by decide) dL_goes_4 (As := [.int v1]) (st := [.int (0 : Int32), .ref (mB E + 105)]) (oi_X11_goes hC.2.2.2.2.2.2.2.1 hW h) rfl rfl (Nat.le_of_ble_eq_true rfl) (by rw [hE.1]; exact ⟨by decide, by decide⟩) ?_
  refine h_i2l hC dL_goes_7 ?_
  refine h_last hC (len := 1) rfl (by decide) (inB_in (by decide)) dL_goes_8 (nm_e ?_)
  refine h_goto hC dL_goes_9 (tgt := 15) (by decide) ?_
  refine h_iconst hC dL_goes_15 (v := (0 : Int32)) (by decide) ?_
  exact h_xiret hC hE rfl dL_goes_16 (by decide) (by decide) ⟨rfl, rfl, rfl, rfl, rfl, rfl⟩
set_option maxRecDepth 20000 in
theorem ow_goes_t1 {l : Launch} {E : mEn} {Fu : Nat} {I : mIT} {R : mRT} {L : mLT} {v1 : Int32} (hst : l.stackTraces = false) (hW : mWd R) {I1 : mIT} (h : f_X11_goes Fu R I v1 = some (.inr (1, I1))) : mOw l E mL_goes [(0, 9, 12, 18)] [.ref (mB E + 0), .int v1, .ref (mB E + 105)] 106 1 I R L 1 6 (mSame (some (.int 1)) 106 1 I1 R L) := by
  refine mOw_of hst (by decide) (Nat.le_of_ble_eq_true rfl) (fun X hC hE _ => ?_)
  have hC : mD X E mL_goes RL cL_goes [(0, 9, 12, 18)] := hC
  show mG X E 0 [(0, .ref (mB E + 0)), (1, .int v1), (2, .ref (mB E + 105))] [] 106 1 I R L 0 0
  refine h_aload_n hC dL_goes_0 (i := 2) rfl (q := 2) rfl ?_
  refine h_iconst hC dL_goes_1 (v := (0 : Int32)) (by decide) ?_
  refine h_aload_n hC dL_goes_2 (i := 0) rfl (q := 0) rfl ?_
  refine h_iload_n hC dL_goes_3 (i := 1) rfl (q := 1) rfl ?_
  refine h_cVc hC cv_X11_goes wd_1297 ⟨Nat.le_of_ble_eq_true rfl, Nat.le_of_ble_eq_true rfl⟩ rfl (by decide) dL_goes_4 (As := [.int v1]) (st := [.int (0 : Int32), .ref (mB E + 105)]) (ox_X11_goes hC.2.2.2.2.2.2.2.1 hW h) rfl rfl (Nat.le_of_ble_eq_true rfl) (by rw [hE.1]; exact ⟨by decide, by decide⟩) [] [] (0, 9, 12, 18) rfl (fun z hz => by cases hz) (by decide) (by decide) wd_1141 (va_Nw.use rfl hC.2.2.2.1.2.2.2.2.2.2.1) (fun q9 => ?_)
  refine h_astore_n hC dL_goes_12 rfl rfl (by decide) (lv' := [(3, .ref q9), (0, .ref (mB E + 0)), (1, .int v1), (2, .ref (mB E + 105))]) rfl ?_
  refine h_iconst hC dL_goes_13 (v := (1 : Int32)) (by decide) ?_
  exact h_xiret hC hE rfl dL_goes_14 (by decide) (by decide) ⟨rfl, rfl, rfl, rfl, rfl, rfl⟩
def mL_rings : mMt := (yL_rings, cL_rings, 4, some .int, 13, 281)
set_option maxRecDepth 20000 in
theorem ow_rings_r {l : Launch} {E : mEn} {Fu : Nat} {I : mIT} {R : mRT} {L : mLT} {v1 : Int32} (hst : l.stackTraces = false) (hW : mWd R) {o : Int32 × mIT} (h : f_X11_rings Fu R I v1 = some (.inl o)) : mOw l E mL_rings [(0, 16, 19, 13)] [.ref (mB E + 0), .int v1, .ref (mB E + 105)] 106 1 I R L 1 6 (mSame (some (.int 0)) 106 1 (o.2) R (mUL L 105 0 (if o.1 = 0 then 0 else 1 : Int64))) := by
  refine mOw_of hst (by decide) (Nat.le_of_ble_eq_true rfl) (fun X hC hE _ => ?_)
  have hC : mD X E mL_rings RL cL_rings [(0, 16, 19, 13)] := hC
  show mG X E 0 [(0, .ref (mB E + 0)), (1, .int v1), (2, .ref (mB E + 105))] [] 106 1 I R L 0 0
  refine h_aload_n hC dL_rings_0 (i := 2) rfl (q := 2) rfl ?_
  refine h_iconst hC dL_rings_1 (v := (0 : Int32)) (by decide) ?_
  refine h_aload_n hC dL_rings_2 (i := 0) rfl (q := 0) rfl ?_
  refine h_iload_n hC dL_rings_3 (i := 1) rfl (q := 1) rfl ?_
  refine h_cV1 hC cv_X11_rings wd_1304 ⟨Nat.le_of_ble_eq_true rfl, Nat.le_of_ble_eq_true rfl⟩ rfl (by decide) dL_rings_4 (As := [.int v1]) (st := [.int (0 : Int32), .ref (mB E + 105)]) (oi_X11_rings hC.2.2.2.2.2.2.2.1 hW h) rfl rfl (Nat.le_of_ble_eq_true rfl) (by rw [hE.1]; exact ⟨by decide, by decide⟩) ?_
  refine h_if_eq hC dL_rings_7 (tgt := 14) (by decide) (fun c => ?_) (fun c => ?_)
  · refine h_lconst hC dL_rings_14 (v := 0) (by decide) ?_
    refine h_last hC (len := 1) rfl (by decide) (inB_in (by decide)) dL_rings_15 (nm_e ?_)
    refine h_goto hC dL_rings_16 (tgt := 22) (by decide) ?_
    refine h_iconst hC dL_rings_22 (v := (0 : Int32)) (by decide) ?_
    exact h_xiret hC hE rfl dL_rings_23 (by decide) (by decide) (by rw [if_pos c]; exact ⟨rfl, rfl, rfl, rfl, rfl, rfl⟩)
  · refine h_lconst hC dL_rings_10 (v := 1) (by decide) ?_
    refine h_goto hC dL_rings_11 (tgt := 15) (by decide) ?_
    refine h_last hC (len := 1) rfl (by decide) (inB_in (by decide)) dL_rings_15 (nm_e ?_)
    refine h_goto hC dL_rings_16 (tgt := 22) (by decide) ?_
    refine h_iconst hC dL_rings_22 (v := (0 : Int32)) (by decide) ?_
    exact h_xiret hC hE rfl dL_rings_23 (by decide) (by decide) (by rw [if_neg c]; exact ⟨rfl, rfl, rfl, rfl, rfl, rfl⟩)
set_option maxRecDepth 20000 in
theorem ow_rings_t2 {l : Launch} {E : mEn} {Fu : Nat} {I : mIT} {R : mRT} {L : mLT} {v1 : Int32} (hst : l.stackTraces = false) (hW : mWd R) {I1 : mIT} (h : f_X11_rings Fu R I v1 = some (.inr (2, I1))) : mOw l E mL_rings [(0, 16, 19, 13)] [.ref (mB E + 0), .int v1, .ref (mB E + 105)] 106 1 I R L 1 6 (mSame (some (.int 1)) 106 1 I1 R L) := by
  refine mOw_of hst (by decide) (Nat.le_of_ble_eq_true rfl) (fun X hC hE _ => ?_)
  have hC : mD X E mL_rings RL cL_rings [(0, 16, 19, 13)] := hC
  show mG X E 0 [(0, .ref (mB E + 0)), (1, .int v1), (2, .ref (mB E + 105))] [] 106 1 I R L 0 0
  refine h_aload_n hC dL_rings_0 (i := 2) rfl (q := 2) rfl ?_
  refine h_iconst hC dL_rings_1 (v := (0 : Int32)) (by decide) ?_
  refine h_aload_n hC dL_rings_2 (i := 0) rfl (q := 0) rfl ?_
  refine h_iload_n hC dL_rings_3 (i := 1) rfl (q := 1) rfl ?_
  refine h_cVc hC cv_X11_rings wd_1304 ⟨Nat.le_of_ble_eq_true rfl, Nat.le_of_ble_eq_true rfl⟩ rfl (by decide) dL_rings_4 (As := [.int v1]) (st := [.int (0 : Int32), .ref (mB E + 105)]) (ox_X11_rings hC.2.2.2.2.2.2.2.1 hW h) rfl rfl (Nat.le_of_ble_eq_true rfl) (by rw [hE.1]; exact ⟨by decide, by decide⟩) [] [] (0, 16, 19, 13) rfl (fun z hz => by cases hz) (by decide) (by decide) wd_837 (va_Nw.use rfl hC.2.2.2.1.2.2.2.2.2.1) (fun q9 => ?_)
  refine h_astore_n hC dL_rings_19 rfl rfl (by decide) (lv' := [(3, .ref q9), (0, .ref (mB E + 0)), (1, .int v1), (2, .ref (mB E + 105))]) rfl ?_
  refine h_iconst hC dL_rings_20 (v := (1 : Int32)) (by decide) ?_
  exact h_xiret hC hE rfl dL_rings_21 (by decide) (by decide) ⟨rfl, rfl, rfl, rfl, rfl, rfl⟩
def mL_order : mMt := (yL_order, cL_order, 4, some .int, 13, 281)
set_option maxRecDepth 20000 in
theorem ow_order_r {l : Launch} {E : mEn} {Fu : Nat} {I : mIT} {R : mRT} {L : mLT} {v1 : Int32} (hst : l.stackTraces = false) (hW : mWd R) {o : Int32 × mIT} (h : f_X11_order Fu R I v1 = some (.inl o)) : mOw l E mL_order [(0, 9, 12, 18)] [.ref (mB E + 0), .int v1, .ref (mB E + 105)] 106 1 I R L 1 6 (mSame (some (.int 0)) 106 1 (o.2) R (mUL L 105 0 (o.1).toInt64)) := by
  refine mOw_of hst (by decide) (Nat.le_of_ble_eq_true rfl) (fun X hC hE _ => ?_)
  have hC : mD X E mL_order RL cL_order [(0, 9, 12, 18)] := hC
  show mG X E 0 [(0, .ref (mB E + 0)), (1, .int v1), (2, .ref (mB E + 105))] [] 106 1 I R L 0 0
  refine h_aload_n hC dL_order_0 (i := 2) rfl (q := 2) rfl ?_
  refine h_iconst hC dL_order_1 (v := (0 : Int32)) (by decide) ?_
  refine h_aload_n hC dL_order_2 (i := 0) rfl (q := 0) rfl ?_
  refine h_iload_n hC dL_order_3 (i := 1) rfl (q := 1) rfl ?_
  refine h_cV1 hC cv_X11_order wd_1311 ⟨Nat.le_of_ble_eq_true rfl, Nat.le_of_ble_eq_true rfl⟩ rfl (by decide) dL_order_4 (As := [.int v1]) (st := [.int (0 : Int32), .ref (mB E + 105)]) (oi_X11_order hC.2.2.2.2.2.2.2.1 hW h) rfl rfl (Nat.le_of_ble_eq_true rfl) (by rw [hE.1]; exact ⟨by decide, by decide⟩) ?_
  refine h_i2l hC dL_order_7 ?_
  refine h_last hC (len := 1) rfl (by decide) (inB_in (by decide)) dL_order_8 (nm_e ?_)
  refine h_goto hC dL_order_9 (tgt := 15) (by decide) ?_
  refine h_iconst hC dL_order_15 (v := (0 : Int32)) (by decide) ?_
  exact h_xiret hC hE rfl dL_order_16 (by decide) (by decide) ⟨rfl, rfl, rfl, rfl, rfl, rfl⟩
set_option maxRecDepth 20000 in
theorem ow_order_t1 {l : Launch} {E : mEn} {Fu : Nat} {I : mIT} {R : mRT} {L : mLT} {v1 : Int32} (hst : l.stackTraces = false) (hW : mWd R) {I1 : mIT} (h : f_X11_order Fu R I v1 = some (.inr (1, I1))) : mOw l E mL_order [(0, 9, 12, 18)] [.ref (mB E + 0), .int v1, .ref (mB E + 105)] 106 1 I R L 1 6 (mSame (some (.int 1)) 106 1 I1 R L) := by
  refine mOw_of hst (by decide) (Nat.le_of_ble_eq_true rfl) (fun X hC hE _ => ?_)
  have hC : mD X E mL_order RL cL_order [(0, 9, 12, 18)] := hC
  show mG X E 0 [(0, .ref (mB E + 0)), (1, .int v1), (2, .ref (mB E + 105))] [] 106 1 I R L 0 0
  refine h_aload_n hC dL_order_0 (i := 2) rfl (q := 2) rfl ?_
  refine h_iconst hC dL_order_1 (v := (0 : Int32)) (by decide) ?_
  refine h_aload_n hC dL_order_2 (i := 0) rfl (q := 0) rfl ?_
  refine h_iload_n hC dL_order_3 (i := 1) rfl (q := 1) rfl ?_
  refine h_cVc hC cv_X11_order wd_1311 ⟨Nat.le_of_ble_eq_true rfl, Nat.le_of_ble_eq_true rfl⟩ rfl (by decide) dL_order_4 (As := [.int v1]) (st := [.int (0 : Int32), .ref (mB E + 105)]) (ox_X11_order hC.2.2.2.2.2.2.2.1 hW h) rfl rfl (Nat.le_of_ble_eq_true rfl) (by rw [hE.1]; exact ⟨by decide, by decide⟩) [] [] (0, 9, 12, 18) rfl (fun z hz => by cases hz) (by decide) (by decide) wd_1141 (va_Nw.use rfl hC.2.2.2.1.2.2.2.2.2.2.1) (fun q9 => ?_)
  refine h_astore_n hC dL_order_12 rfl rfl (by decide) (lv' := [(3, .ref q9), (0, .ref (mB E + 0)), (1, .int v1), (2, .ref (mB E + 105))]) rfl ?_
  refine h_iconst hC dL_order_13 (v := (1 : Int32)) (by decide) ?_
  exact h_xiret hC hE rfl dL_order_14 (by decide) (by decide) ⟨rfl, rfl, rfl, rfl, rfl, rfl⟩
def mL_row : mMt := (yL_row, cL_row, 4, some .int, 13, 281)
set_option maxRecDepth 20000 in
theorem ow_row_r {l : Launch} {E : mEn} {Fu : Nat} {I : mIT} {R : mRT} {L : mLT} {v1 : Int32} (hst : l.stackTraces = false) (hW : mWd R) {o : Int32 × mIT} (h : f_X11_row Fu R I v1 = some (.inl o)) : mOw l E mL_row [(0, 9, 12, 13)] [.ref (mB E + 0), .int v1, .ref (mB E + 105)] 106 1 I R L 1 6 (mSame (some (.int 0)) 106 1 (o.2) R (mUL L 105 0 (o.1).toInt64)) := by
  refine mOw_of hst (by decide) (Nat.le_of_ble_eq_true rfl) (fun X hC hE _ => ?_)
  have hC : mD X E mL_row RL cL_row [(0, 9, 12, 13)] := hC
  show mG X E 0 [(0, .ref (mB E + 0)), (1, .int v1), (2, .ref (mB E + 105))] [] 106 1 I R L 0 0
  refine h_aload_n hC dL_row_0 (i := 2) rfl (q := 2) rfl ?_
  refine h_iconst hC dL_row_1 (v := (0 : Int32)) (by decide) ?_
  refine h_aload_n hC dL_row_2 (i := 0) rfl (q := 0) rfl ?_
  refine h_iload_n hC dL_row_3 (i := 1) rfl (q := 1) rfl ?_
  refine h_cV1 hC cv_X11_row wd_1327 ⟨Nat.le_of_ble_eq_true rfl, Nat.le_of_ble_eq_true rfl⟩ rfl (by decide) dL_row_4 (As := [.int v1]) (st := [.int (0 : Int32), .ref (mB E + 105)]) (oi_X11_row hC.2.2.2.2.2.2.2.1 hW h) rfl rfl (Nat.le_of_ble_eq_true rfl) (by rw [hE.1]; exact ⟨by decide, by decide⟩) ?_
  refine h_i2l hC dL_row_7 ?_
  refine h_last hC (len := 1) rfl (by decide) (inB_in (by decide)) dL_row_8 (nm_e ?_)
  refine h_goto hC dL_row_9 (tgt := 15) (by decide) ?_
  refine h_iconst hC dL_row_15 (v := (0 : Int32)) (by decide) ?_
  exact h_xiret hC hE rfl dL_row_16 (by decide) (by decide) ⟨rfl, rfl, rfl, rfl, rfl, rfl⟩
set_option maxRecDepth 20000 in
theorem ow_row_t2 {l : Launch} {E : mEn} {Fu : Nat} {I : mIT} {R : mRT} {L : mLT} {v1 : Int32} (hst : l.stackTraces = false) (hW : mWd R) {I1 : mIT} (h : f_X11_row Fu R I v1 = some (.inr (2, I1))) : mOw l E mL_row [(0, 9, 12, 13)] [.ref (mB E + 0), .int v1, .ref (mB E + 105)] 106 1 I R L 1 6 (mSame (some (.int 1)) 106 1 I1 R L) := by
  refine mOw_of hst (by decide) (Nat.le_of_ble_eq_true rfl) (fun X hC hE _ => ?_)
  have hC : mD X E mL_row RL cL_row [(0, 9, 12, 13)] := hC
  show mG X E 0 [(0, .ref (mB E + 0)), (1, .int v1), (2, .ref (mB E + 105))] [] 106 1 I R L 0 0
  refine h_aload_n hC dL_row_0 (i := 2) rfl (q := 2) rfl ?_
  refine h_iconst hC dL_row_1 (v := (0 : Int32)) (by decide) ?_
  refine h_aload_n hC dL_row_2 (i := 0) rfl (q := 0) rfl ?_
  refine h_iload_n hC dL_row_3 (i := 1) rfl (q := 1) rfl ?_
  refine h_cVc hC cv_X11_row wd_1327 ⟨Nat.le_of_ble_eq_true rfl, Nat.le_of_ble_eq_true rfl⟩ rfl (by decide) dL_row_4 (As := [.int v1]) (st := [.int (0 : Int32), .ref (mB E + 105)]) (ox_X11_row hC.2.2.2.2.2.2.2.1 hW h) rfl rfl (Nat.le_of_ble_eq_true rfl) (by rw [hE.1]; exact ⟨by decide, by decide⟩) [] [] (0, 9, 12, 13) rfl (fun z hz => by cases hz) (by decide) (by decide) wd_837 (va_Nw.use rfl hC.2.2.2.1.2.2.2.2.2.1) (fun q9 => ?_)
  refine h_astore_n hC dL_row_12 rfl rfl (by decide) (lv' := [(3, .ref q9), (0, .ref (mB E + 0)), (1, .int v1), (2, .ref (mB E + 105))]) rfl ?_
  refine h_iconst hC dL_row_13 (v := (1 : Int32)) (by decide) ?_
  exact h_xiret hC hE rfl dL_row_14 (by decide) (by decide) ⟨rfl, rfl, rfl, rfl, rfl, rfl⟩
def mL_at : mMt := (yL_at, cL_at, 5, some .int, 13, 281)
set_option maxRecDepth 20000 in
theorem ow_at_r {l : Launch} {E : mEn} {Fu : Nat} {I : mIT} {R : mRT} {L : mLT} {v1 : Int32} {v2 : Int32} (hst : l.stackTraces = false) (hW : mWd R) {o : Int32 × mIT} (h : f_X11_at Fu R I v1 v2 = some (.inl o)) : mOw l E mL_at [(0, 10, 13, 18), (0, 10, 17, 13)] [.ref (mB E + 0), .int v1, .int v2, .ref (mB E + 105)] 106 1 I R L 1 6 (mSame (some (.int 0)) 106 1 (o.2) R (mUL L 105 0 (o.1).toInt64)) := by
  refine mOw_of hst (by decide) (Nat.le_of_ble_eq_true rfl) (fun X hC hE _ => ?_)
  have hC : mD X E mL_at RL cL_at [(0, 10, 13, 18), (0, 10, 17, 13)] := hC
  show mG X E 0 [(0, .ref (mB E + 0)), (1, .int v1), (2, .int v2), (3, .ref (mB E + 105))] [] 106 1 I R L 0 0
  refine h_aload_n hC dL_at_0 (i := 3) rfl (q := 3) rfl ?_
  refine h_iconst hC dL_at_1 (v := (0 : Int32)) (by decide) ?_
  refine h_aload_n hC dL_at_2 (i := 0) rfl (q := 0) rfl ?_
  refine h_iload_n hC dL_at_3 (i := 1) rfl (q := 1) rfl ?_
  refine h_iload_n hC dL_at_4 (i := 2) rfl (q := 2) rfl ?_
  refine h_cV1 hC cv_X11_at wd_1347 ⟨Nat.le_of_ble_eq_true rfl, Nat.le_of_ble_eq_true rfl⟩ rfl (by decide) dL_at_5 (As := [.int v1, .int v2]) (st := [.int (0 : Int32), .ref (mB E + 105)]) (oi_X11_at hC.2.2.2.2.2.2.2.1 hW h) rfl rfl (Nat.le_of_ble_eq_true rfl) (by rw [hE.1]; exact ⟨by decide, by decide⟩) ?_
  refine h_i2l hC dL_at_8 ?_
  refine h_last hC (len := 1) rfl (by decide) (inB_in (by decide)) dL_at_9 (nm_e ?_)
  refine h_goto hC dL_at_10 (tgt := 21) (by decide) ?_
  refine h_iconst hC dL_at_21 (v := (0 : Int32)) (by decide) ?_
  exact h_xiret hC hE rfl dL_at_22 (by decide) (by decide) ⟨rfl, rfl, rfl, rfl, rfl, rfl⟩
set_option maxRecDepth 20000 in
theorem ow_at_t1 {l : Launch} {E : mEn} {Fu : Nat} {I : mIT} {R : mRT} {L : mLT} {v1 : Int32} {v2 : Int32} (hst : l.stackTraces = false) (hW : mWd R) {I1 : mIT} (h : f_X11_at Fu R I v1 v2 = some (.inr (1, I1))) : mOw l E mL_at [(0, 10, 13, 18), (0, 10, 17, 13)] [.ref (mB E + 0), .int v1, .int v2, .ref (mB E + 105)] 106 1 I R L 1 6 (mSame (some (.int 1)) 106 1 I1 R L) := by
  refine mOw_of hst (by decide) (Nat.le_of_ble_eq_true rfl) (fun X hC hE _ => ?_)
  have hC : mD X E mL_at RL cL_at [(0, 10, 13, 18), (0, 10, 17, 13)] := hC
  show mG X E 0 [(0, .ref (mB E + 0)), (1, .int v1), (2, .int v2), (3, .ref (mB E + 105))] [] 106 1 I R L 0 0
  refine h_aload_n hC dL_at_0 (i := 3) rfl (q := 3) rfl ?_
  refine h_iconst hC dL_at_1 (v := (0 : Int32)) (by decide) ?_
  refine h_aload_n hC dL_at_2 (i := 0) rfl (q := 0) rfl ?_
  refine h_iload_n hC dL_at_3 (i := 1) rfl (q := 1) rfl ?_
  refine h_iload_n hC dL_at_4 (i := 2) rfl (q := 2) rfl ?_
  refine h_cVc hC cv_X11_at wd_1347 ⟨Nat.le_of_ble_eq_true rfl, Nat.le_of_ble_eq_true rfl⟩ rfl (by decide) dL_at_5 (As := [.int v1, .int v2]) (st := [.int (0 : Int32), .ref (mB E + 105)]) (ox_X11_at hC.2.2.2.2.2.2.2.1 hW h) rfl rfl (Nat.le_of_ble_eq_true rfl) (by rw [hE.1]; exact ⟨by decide, by decide⟩) [] [(0, 10, 17, 13)] (0, 10, 13, 18) rfl (fun z hz => by cases hz) (by decide) (by decide) wd_1141 (va_Nw.use rfl hC.2.2.2.1.2.2.2.2.2.2.1) (fun q9 => ?_)
  refine h_astore hC dL_at_13 rfl (by decide) (lv' := [(4, .ref q9), (0, .ref (mB E + 0)), (1, .int v1), (2, .int v2), (3, .ref (mB E + 105))]) rfl ?_
  refine h_iconst hC dL_at_15 (v := (1 : Int32)) (by decide) ?_
  exact h_xiret hC hE rfl dL_at_16 (by decide) (by decide) ⟨rfl, rfl, rfl, rfl, rfl, rfl⟩
set_option maxRecDepth 20000 in
theorem ow_at_t2 {l : Launch} {E : mEn} {Fu : Nat} {I : mIT} {R : mRT} {L : mLT} {v1 : Int32} {v2 : Int32} (hst : l.stackTraces = false) (hW : mWd R) {I1 : mIT} (h : f_X11_at Fu R I v1 v2 = some (.inr (2, I1))) : mOw l E mL_at [(0, 10, 13, 18), (0, 10, 17, 13)] [.ref (mB E + 0), .int v1, .int v2, .ref (mB E + 105)] 106 1 I R L 1 6 (mSame (some (.int 2)) 106 1 I1 R L) := by
  refine mOw_of hst (by decide) (Nat.le_of_ble_eq_true rfl) (fun X hC hE _ => ?_)
  have hC : mD X E mL_at RL cL_at [(0, 10, 13, 18), (0, 10, 17, 13)] := hC
  show mG X E 0 [(0, .ref (mB E + 0)), (1, .int v1), (2, .int v2), (3, .ref (mB E + 105))] [] 106 1 I R L 0 0
  refine h_aload_n hC dL_at_0 (i := 3) rfl (q := 3) rfl ?_
  refine h_iconst hC dL_at_1 (v := (0 : Int32)) (by decide) ?_
  refine h_aload_n hC dL_at_2 (i := 0) rfl (q := 0) rfl ?_
  refine h_iload_n hC dL_at_3 (i := 1) rfl (q := 1) rfl ?_
  refine h_iload_n hC dL_at_4 (i := 2) rfl (q := 2) rfl ?_
  refine h_cVc hC cv_X11_at wd_1347 ⟨Nat.le_of_ble_eq_true rfl, Nat.le_of_ble_eq_true rfl⟩ rfl (by decide) dL_at_5 (As := [.int v1, .int v2]) (st := [.int (0 : Int32), .ref (mB E + 105)]) (ox_X11_at hC.2.2.2.2.2.2.2.1 hW h) rfl rfl (Nat.le_of_ble_eq_true rfl) (by rw [hE.1]; exact ⟨by decide, by decide⟩) [(0, 10, 13, 18)] [] (0, 10, 17, 13) rfl (fun z hz => by
    rcases List.mem_singleton.mp hz with rfl
    exact Or.inr ⟨by decide, _, wd_1141, hC.2.2.2.2.2.2.1.2⟩) (by decide) (by decide) wd_837 (va_Nw.use rfl hC.2.2.2.1.2.2.2.2.2.1) (fun q9 => ?_)
  refine h_astore hC dL_at_17 rfl (by decide) (lv' := [(4, .ref q9), (0, .ref (mB E + 0)), (1, .int v1), (2, .int v2), (3, .ref (mB E + 105))]) rfl ?_
  refine h_iconst hC dL_at_19 (v := (2 : Int32)) (by decide) ?_
  exact h_xiret hC hE rfl dL_at_20 (by decide) (by decide) ⟨rfl, rfl, rfl, rfl, rfl, rfl⟩
def mL_fit : mMt := (yL_fit, cL_fit, 4, some .int, 13, 281)
set_option maxRecDepth 20000 in
theorem ow_fit_r {l : Launch} {E : mEn} {Fu : Nat} {I : mIT} {R : mRT} {L : mLT} {v1 : Int32} (hst : l.stackTraces = false) (hW : mWd R) {o : Int32 × mIT} (h : f_X11_fit Fu R I v1 = some (.inl o)) : mOw l E mL_fit [(0, 9, 12, 18)] [.ref (mB E + 0), .int v1, .ref (mB E + 105)] 106 1 I R L 1 6 (mSame (some (.int 0)) 106 1 (o.2) R (mUL L 105 0 (o.1).toInt64)) := by
  refine mOw_of hst (by decide) (Nat.le_of_ble_eq_true rfl) (fun X hC hE _ => ?_)
  have hC : mD X E mL_fit RL cL_fit [(0, 9, 12, 18)] := hC
  show mG X E 0 [(0, .ref (mB E + 0)), (1, .int v1), (2, .ref (mB E + 105))] [] 106 1 I R L 0 0
  refine h_aload_n hC dL_fit_0 (i := 2) rfl (q := 2) rfl ?_
  refine h_iconst hC dL_fit_1 (v := (0 : Int32)) (by decide) ?_
  refine h_aload_n hC dL_fit_2 (i := 0) rfl (q := 0) rfl ?_
  refine h_iload_n hC dL_fit_3 (i := 1) rfl (q := 1) rfl ?_
  refine h_cV1 hC cv_X11_fit wd_1363 ⟨Nat.le_of_ble_eq_true rfl, Nat.le_of_ble_eq_true rfl⟩ rfl (by decide) dL_fit_4 (As := [.int v1]) (st := [.int (0 : Int32), .ref (mB E + 105)]) (oi_X11_fit hC.2.2.2.2.2.2.2.1 hW h) rfl rfl (Nat.le_of_ble_eq_true rfl) (by rw [hE.1]; exact ⟨by decide, by decide⟩) ?_
  refine h_i2l hC dL_fit_7 ?_
  refine h_last hC (len := 1) rfl (by decide) (inB_in (by decide)) dL_fit_8 (nm_e ?_)
  refine h_goto hC dL_fit_9 (tgt := 15) (by decide) ?_
  refine h_iconst hC dL_fit_15 (v := (0 : Int32)) (by decide) ?_
  exact h_xiret hC hE rfl dL_fit_16 (by decide) (by decide) ⟨rfl, rfl, rfl, rfl, rfl, rfl⟩
set_option maxRecDepth 20000 in
theorem ow_fit_t1 {l : Launch} {E : mEn} {Fu : Nat} {I : mIT} {R : mRT} {L : mLT} {v1 : Int32} (hst : l.stackTraces = false) (hW : mWd R) {I1 : mIT} (h : f_X11_fit Fu R I v1 = some (.inr (1, I1))) : mOw l E mL_fit [(0, 9, 12, 18)] [.ref (mB E + 0), .int v1, .ref (mB E + 105)] 106 1 I R L 1 6 (mSame (some (.int 1)) 106 1 I1 R L) := by
  refine mOw_of hst (by decide) (Nat.le_of_ble_eq_true rfl) (fun X hC hE _ => ?_)
  have hC : mD X E mL_fit RL cL_fit [(0, 9, 12, 18)] := hC
  show mG X E 0 [(0, .ref (mB E + 0)), (1, .int v1), (2, .ref (mB E + 105))] [] 106 1 I R L 0 0
  refine h_aload_n hC dL_fit_0 (i := 2) rfl (q := 2) rfl ?_
  refine h_iconst hC dL_fit_1 (v := (0 : Int32)) (by decide) ?_
  refine h_aload_n hC dL_fit_2 (i := 0) rfl (q := 0) rfl ?_
  refine h_iload_n hC dL_fit_3 (i := 1) rfl (q := 1) rfl ?_
  refine h_cVc hC cv_X11_fit wd_1363 ⟨Nat.le_of_ble_eq_true rfl, Nat.le_of_ble_eq_true rfl⟩ rfl (by decide) dL_fit_4 (As := [.int v1]) (st := [.int (0 : Int32), .ref (mB E + 105)]) (ox_X11_fit hC.2.2.2.2.2.2.2.1 hW h) rfl rfl (Nat.le_of_ble_eq_true rfl) (by rw [hE.1]; exact ⟨by decide, by decide⟩) [] [] (0, 9, 12, 18) rfl (fun z hz => by cases hz) (by decide) (by decide) wd_1141 (va_Nw.use rfl hC.2.2.2.1.2.2.2.2.2.2.1) (fun q9 => ?_)
  refine h_astore_n hC dL_fit_12 rfl rfl (by decide) (lv' := [(3, .ref q9), (0, .ref (mB E + 0)), (1, .int v1), (2, .ref (mB E + 105))]) rfl ?_
  refine h_iconst hC dL_fit_13 (v := (1 : Int32)) (by decide) ?_
  exact h_xiret hC hE rfl dL_fit_14 (by decide) (by decide) ⟨rfl, rfl, rfl, rfl, rfl, rfl⟩
def mL_eaten : mMt := (yL_eaten, cL_eaten, 4, some .int, 13, 281)
set_option maxRecDepth 20000 in
theorem ow_eaten_r {l : Launch} {E : mEn} {Fu : Nat} {I : mIT} {R : mRT} {L : mLT} {v1 : Int32} (hst : l.stackTraces = false) (hW : mWd R) {o : Int32 × mIT} (h : f_X11_eaten Fu R I v1 = some (.inl o)) : mOw l E mL_eaten [(0, 9, 12, 18)] [.ref (mB E + 0), .int v1, .ref (mB E + 105)] 106 1 I R L 1 6 (mSame (some (.int 0)) 106 1 (o.2) R (mUL L 105 0 (o.1).toInt64)) := by
  refine mOw_of hst (by decide) (Nat.le_of_ble_eq_true rfl) (fun X hC hE _ => ?_)
  have hC : mD X E mL_eaten RL cL_eaten [(0, 9, 12, 18)] := hC
  show mG X E 0 [(0, .ref (mB E + 0)), (1, .int v1), (2, .ref (mB E + 105))] [] 106 1 I R L 0 0
  refine h_aload_n hC dL_eaten_0 (i := 2) rfl (q := 2) rfl ?_
  refine h_iconst hC dL_eaten_1 (v := (0 : Int32)) (by decide) ?_
  refine h_aload_n hC dL_eaten_2 (i := 0) rfl (q := 0) rfl ?_
  refine h_iload_n hC dL_eaten_3 (i := 1) rfl (q := 1) rfl ?_
  refine h_cV1 hC cv_X11_eaten wd_1405 ⟨Nat.le_of_ble_eq_true rfl, Nat.le_of_ble_eq_true rfl⟩ rfl (by decide) dL_eaten_4 (As := [.int v1]) (st := [.int (0 : Int32), .ref (mB E + 105)]) (oi_X11_eaten hC.2.2.2.2.2.2.2.1 hW h) rfl rfl (Nat.le_of_ble_eq_true rfl) (by rw [hE.1]; exact ⟨by decide, by decide⟩) ?_
  refine h_i2l hC dL_eaten_7 ?_
  refine h_last hC (len := 1) rfl (by decide) (inB_in (by decide)) dL_eaten_8 (nm_e ?_)
  refine h_goto hC dL_eaten_9 (tgt := 15) (by decide) ?_
  refine h_iconst hC dL_eaten_15 (v := (0 : Int32)) (by decide) ?_
  exact h_xiret hC hE rfl dL_eaten_16 (by decide) (by decide) ⟨rfl, rfl, rfl, rfl, rfl, rfl⟩
set_option maxRecDepth 20000 in
theorem ow_eaten_t1 {l : Launch} {E : mEn} {Fu : Nat} {I : mIT} {R : mRT} {L : mLT} {v1 : Int32} (hst : l.stackTraces = false) (hW : mWd R) {I1 : mIT} (h : f_X11_eaten Fu R I v1 = some (.inr (1, I1))) : mOw l E mL_eaten [(0, 9, 12, 18)] [.ref (mB E + 0), .int v1, .ref (mB E + 105)] 106 1 I R L 1 6 (mSame (some (.int 1)) 106 1 I1 R L) := by
  refine mOw_of hst (by decide) (Nat.le_of_ble_eq_true rfl) (fun X hC hE _ => ?_)
  have hC : mD X E mL_eaten RL cL_eaten [(0, 9, 12, 18)] := hC
  show mG X E 0 [(0, .ref (mB E + 0)), (1, .int v1), (2, .ref (mB E + 105))] [] 106 1 I R L 0 0
  refine h_aload_n hC dL_eaten_0 (i := 2) rfl (q := 2) rfl ?_
  refine h_iconst hC dL_eaten_1 (v := (0 : Int32)) (by decide) ?_
  refine h_aload_n hC dL_eaten_2 (i := 0) rfl (q := 0) rfl ?_
  refine h_iload_n hC dL_eaten_3 (i := 1) rfl (q := 1) rfl ?_
  refine h_cVc hC cv_X11_eaten wd_1405 ⟨Nat.le_of_ble_eq_true rfl, Nat.le_of_ble_eq_true rfl⟩ rfl (by decide) dL_eaten_4 (As := [.int v1]) (st := [.int (0 : Int32), .ref (mB E + 105)]) (ox_X11_eaten hC.2.2.2.2.2.2.2.1 hW h) rfl rfl (Nat.le_of_ble_eq_true rfl) (by rw [hE.1]; exact ⟨by decide, by decide⟩) [] [] (0, 9, 12, 18) rfl (fun z hz => by cases hz) (by decide) (by decide) wd_1141 (va_Nw.use rfl hC.2.2.2.1.2.2.2.2.2.2.1) (fun q9 => ?_)
  refine h_astore_n hC dL_eaten_12 rfl rfl (by decide) (lv' := [(3, .ref q9), (0, .ref (mB E + 0)), (1, .int v1), (2, .ref (mB E + 105))]) rfl ?_
  refine h_iconst hC dL_eaten_13 (v := (1 : Int32)) (by decide) ?_
  exact h_xiret hC hE rfl dL_eaten_14 (by decide) (by decide) ⟨rfl, rfl, rfl, rfl, rfl, rfl⟩
def mL_next : mMt := (yL_next, cL_next, 4, some .int, 13, 281)
set_option maxRecDepth 20000 in
theorem ow_next_r {l : Launch} {E : mEn} {Fu : Nat} {I : mIT} {R : mRT} {L : mLT} {v1 : Int32} (hst : l.stackTraces = false) (hW : mWd R) {o : Int32 × mIT} (h : f_X11_next Fu R I v1 = some (.inl o)) : mOw l E mL_next [(0, 9, 12, 18)] [.ref (mB E + 0), .int v1, .ref (mB E + 105)] 106 1 I R L 1 6 (mSame (some (.int 0)) 106 1 (o.2) R (mUL L 105 0 (o.1).toInt64)) := by
  refine mOw_of hst (by decide) (Nat.le_of_ble_eq_true rfl) (fun X hC hE _ => ?_)
  have hC : mD X E mL_next RL cL_next [(0, 9, 12, 18)] := hC
  show mG X E 0 [(0, .ref (mB E + 0)), (1, .int v1), (2, .ref (mB E + 105))] [] 106 1 I R L 0 0
  refine h_aload_n hC dL_next_0 (i := 2) rfl (q := 2) rfl ?_
  refine h_iconst hC dL_next_1 (v := (0 : Int32)) (by decide) ?_
  refine h_aload_n hC dL_next_2 (i := 0) rfl (q := 0) rfl ?_
  refine h_iload_n hC dL_next_3 (i := 1) rfl (q := 1) rfl ?_
  refine h_cV1 hC cv_X11_next wd_1441 ⟨Nat.le_of_ble_eq_true rfl, Nat.le_of_ble_eq_true rfl⟩ rfl (by decide) dL_next_4 (As := [.int v1]) (st := [.int (0 : Int32), .ref (mB E + 105)]) (oi_X11_next hC.2.2.2.2.2.2.2.1 hW h) rfl rfl (Nat.le_of_ble_eq_true rfl) (by rw [hE.1]; exact ⟨by decide, by decide⟩) ?_
  refine h_i2l hC dL_next_7 ?_
  refine h_last hC (len := 1) rfl (by decide) (inB_in (by decide)) dL_next_8 (nm_e ?_)
  refine h_goto hC dL_next_9 (tgt := 15) (by decide) ?_
  refine h_iconst hC dL_next_15 (v := (0 : Int32)) (by decide) ?_
  exact h_xiret hC hE rfl dL_next_16 (by decide) (by decide) ⟨rfl, rfl, rfl, rfl, rfl, rfl⟩
set_option maxRecDepth 20000 in
theorem ow_next_t1 {l : Launch} {E : mEn} {Fu : Nat} {I : mIT} {R : mRT} {L : mLT} {v1 : Int32} (hst : l.stackTraces = false) (hW : mWd R) {I1 : mIT} (h : f_X11_next Fu R I v1 = some (.inr (1, I1))) : mOw l E mL_next [(0, 9, 12, 18)] [.ref (mB E + 0), .int v1, .ref (mB E + 105)] 106 1 I R L 1 6 (mSame (some (.int 1)) 106 1 I1 R L) := by
  refine mOw_of hst (by decide) (Nat.le_of_ble_eq_true rfl) (fun X hC hE _ => ?_)
  have hC : mD X E mL_next RL cL_next [(0, 9, 12, 18)] := hC
  show mG X E 0 [(0, .ref (mB E + 0)), (1, .int v1), (2, .ref (mB E + 105))] [] 106 1 I R L 0 0
  refine h_aload_n hC dL_next_0 (i := 2) rfl (q := 2) rfl ?_
  refine h_iconst hC dL_next_1 (v := (0 : Int32)) (by decide) ?_
  refine h_aload_n hC dL_next_2 (i := 0) rfl (q := 0) rfl ?_
  refine h_iload_n hC dL_next_3 (i := 1) rfl (q := 1) rfl ?_
  refine h_cVc hC cv_X11_next wd_1441 ⟨Nat.le_of_ble_eq_true rfl, Nat.le_of_ble_eq_true rfl⟩ rfl (by decide) dL_next_4 (As := [.int v1]) (st := [.int (0 : Int32), .ref (mB E + 105)]) (ox_X11_next hC.2.2.2.2.2.2.2.1 hW h) rfl rfl (Nat.le_of_ble_eq_true rfl) (by rw [hE.1]; exact ⟨by decide, by decide⟩) [] [] (0, 9, 12, 18) rfl (fun z hz => by cases hz) (by decide) (by decide) wd_1141 (va_Nw.use rfl hC.2.2.2.1.2.2.2.2.2.2.1) (fun q9 => ?_)
  refine h_astore_n hC dL_next_12 rfl rfl (by decide) (lv' := [(3, .ref q9), (0, .ref (mB E + 0)), (1, .int v1), (2, .ref (mB E + 105))]) rfl ?_
  refine h_iconst hC dL_next_13 (v := (1 : Int32)) (by decide) ?_
  exact h_xiret hC hE rfl dL_next_14 (by decide) (by decide) ⟨rfl, rfl, rfl, rfl, rfl, rfl⟩
def mL_game : mMt := (yL_game, cL_game, 6, some .int, 13, 281)
set_option maxRecDepth 20000 in
theorem ow_game_r {l : Launch} {E : mEn} {Fu : Nat} {I : mIT} {R : mRT} {L : mLT} {v1 : Int32} {v2 : Int32} {v3 : Int32} (hst : l.stackTraces = false) (hW : mWd R) {o : Int32 × mIT} (h : f_X11_game Fu R I v1 v2 v3 = some (.inl o)) : mOw l E mL_game [(0, 12, 15, 18), (0, 12, 19, 13)] [.ref (mB E + 0), .int v1, .int v2, .int v3, .ref (mB E + 105)] 106 1 I R L 1 6 (mSame (some (.int 0)) 106 1 (o.2) R (mUL L 105 0 (o.1).toInt64)) := by
  refine mOw_of hst (by decide) (Nat.le_of_ble_eq_true rfl) (fun X hC hE _ => ?_)
  have hC : mD X E mL_game RL cL_game [(0, 12, 15, 18), (0, 12, 19, 13)] := hC
  show mG X E 0 [(0, .ref (mB E + 0)), (1, .int v1), (2, .int v2), (3, .int v3), (4, .ref (mB E + 105))] [] 106 1 I R L 0 0
  refine h_aload hC dL_game_0 (q := 4) rfl ?_
  refine h_iconst hC dL_game_2 (v := (0 : Int32)) (by decide) ?_
  refine h_aload_n hC dL_game_3 (i := 0) rfl (q := 0) rfl ?_
  refine h_iload_n hC dL_game_4 (i := 1) rfl (q := 1) rfl ?_
  refine h_iload_n hC dL_game_5 (i := 2) rfl (q := 2) rfl ?_
  refine h_iload_n hC dL_game_6 (i := 3) rfl (q := 3) rfl ?_
  refine h_cV1 hC cv_X11_game wd_1474 ⟨Nat.le_of_ble_eq_true rfl, Nat.le_of_ble_eq_true rfl⟩ rfl (by decide) dL_game_7 (As := [.int v1, .int v2, .int v3]) (st := [.int (0 : Int32), .ref (mB E + 105)]) (oi_X11_game hC.2.2.2.2.2.2.2.1 hW h) rfl rfl (Nat.le_of_ble_eq_true rfl) (by rw [hE.1]; exact ⟨by decide, by decide⟩) ?_
  refine h_i2l hC dL_game_10 ?_
  refine h_last hC (len := 1) rfl (by decide) (inB_in (by decide)) dL_game_11 (nm_e ?_)
  refine h_goto hC dL_game_12 (tgt := 23) (by decide) ?_
  refine h_iconst hC dL_game_23 (v := (0 : Int32)) (by decide) ?_
  exact h_xiret hC hE rfl dL_game_24 (by decide) (by decide) ⟨rfl, rfl, rfl, rfl, rfl, rfl⟩
set_option maxRecDepth 20000 in
theorem ow_game_t1 {l : Launch} {E : mEn} {Fu : Nat} {I : mIT} {R : mRT} {L : mLT} {v1 : Int32} {v2 : Int32} {v3 : Int32} (hst : l.stackTraces = false) (hW : mWd R) {I1 : mIT} (h : f_X11_game Fu R I v1 v2 v3 = some (.inr (1, I1))) : mOw l E mL_game [(0, 12, 15, 18), (0, 12, 19, 13)] [.ref (mB E + 0), .int v1, .int v2, .int v3, .ref (mB E + 105)] 106 1 I R L 1 6 (mSame (some (.int 1)) 106 1 I1 R L) := by
  refine mOw_of hst (by decide) (Nat.le_of_ble_eq_true rfl) (fun X hC hE _ => ?_)
  have hC : mD X E mL_game RL cL_game [(0, 12, 15, 18), (0, 12, 19, 13)] := hC
  show mG X E 0 [(0, .ref (mB E + 0)), (1, .int v1), (2, .int v2), (3, .int v3), (4, .ref (mB E + 105))] [] 106 1 I R L 0 0
  refine h_aload hC dL_game_0 (q := 4) rfl ?_
  refine h_iconst hC dL_game_2 (v := (0 : Int32)) (by decide) ?_
  refine h_aload_n hC dL_game_3 (i := 0) rfl (q := 0) rfl ?_
  refine h_iload_n hC dL_game_4 (i := 1) rfl (q := 1) rfl ?_
  refine h_iload_n hC dL_game_5 (i := 2) rfl (q := 2) rfl ?_
  refine h_iload_n hC dL_game_6 (i := 3) rfl (q := 3) rfl ?_
  refine h_cVc hC cv_X11_game wd_1474 ⟨Nat.le_of_ble_eq_true rfl, Nat.le_of_ble_eq_true rfl⟩ rfl (by decide) dL_game_7 (As := [.int v1, .int v2, .int v3]) (st := [.int (0 : Int32), .ref (mB E + 105)]) (ox_X11_game hC.2.2.2.2.2.2.2.1 hW h) rfl rfl (Nat.le_of_ble_eq_true rfl) (by rw [hE.1]; exact ⟨by decide, by decide⟩) [] [(0, 12, 19, 13)] (0, 12, 15, 18) rfl (fun z hz => by cases hz) (by decide) (by decide) wd_1141 (va_Nw.use rfl hC.2.2.2.1.2.2.2.2.2.2.1) (fun q9 => ?_)
  refine h_astore hC dL_game_15 rfl (by decide) (lv' := [(5, .ref q9), (0, .ref (mB E + 0)), (1, .int v1), (2, .int v2), (3, .int v3), (4, .ref (mB E + 105))]) rfl ?_
  refine h_iconst hC dL_game_17 (v := (1 : Int32)) (by decide) ?_
  exact h_xiret hC hE rfl dL_game_18 (by decide) (by decide) ⟨rfl, rfl, rfl, rfl, rfl, rfl⟩
set_option maxRecDepth 20000 in
theorem ow_game_t2 {l : Launch} {E : mEn} {Fu : Nat} {I : mIT} {R : mRT} {L : mLT} {v1 : Int32} {v2 : Int32} {v3 : Int32} (hst : l.stackTraces = false) (hW : mWd R) {I1 : mIT} (h : f_X11_game Fu R I v1 v2 v3 = some (.inr (2, I1))) : mOw l E mL_game [(0, 12, 15, 18), (0, 12, 19, 13)] [.ref (mB E + 0), .int v1, .int v2, .int v3, .ref (mB E + 105)] 106 1 I R L 1 6 (mSame (some (.int 2)) 106 1 I1 R L) := by
  refine mOw_of hst (by decide) (Nat.le_of_ble_eq_true rfl) (fun X hC hE _ => ?_)
  have hC : mD X E mL_game RL cL_game [(0, 12, 15, 18), (0, 12, 19, 13)] := hC
  show mG X E 0 [(0, .ref (mB E + 0)), (1, .int v1), (2, .int v2), (3, .int v3), (4, .ref (mB E + 105))] [] 106 1 I R L 0 0
  refine h_aload hC dL_game_0 (q := 4) rfl ?_
  refine h_iconst hC dL_game_2 (v := (0 : Int32)) (by decide) ?_
  refine h_aload_n hC dL_game_3 (i := 0) rfl (q := 0) rfl ?_
  refine h_iload_n hC dL_game_4 (i := 1) rfl (q := 1) rfl ?_
  refine h_iload_n hC dL_game_5 (i := 2) rfl (q := 2) rfl ?_
  refine h_iload_n hC dL_game_6 (i := 3) rfl (q := 3) rfl ?_
  refine h_cVc hC cv_X11_game wd_1474 ⟨Nat.le_of_ble_eq_true rfl, Nat.le_of_ble_eq_true rfl⟩ rfl (by decide) dL_game_7 (As := [.int v1, .int v2, .int v3]) (st := [.int (0 : Int32), .ref (mB E + 105)]) (ox_X11_game hC.2.2.2.2.2.2.2.1 hW h) rfl rfl (Nat.le_of_ble_eq_true rfl) (by rw [hE.1]; exact ⟨by decide, by decide⟩) [(0, 12, 15, 18)] [] (0, 12, 19, 13) rfl (fun z hz => by
    rcases List.mem_singleton.mp hz with rfl
    exact Or.inr ⟨by decide, _, wd_1141, hC.2.2.2.2.2.2.1.2⟩) (by decide) (by decide) wd_837 (va_Nw.use rfl hC.2.2.2.1.2.2.2.2.2.1) (fun q9 => ?_)
  refine h_astore hC dL_game_19 rfl (by decide) (lv' := [(5, .ref q9), (0, .ref (mB E + 0)), (1, .int v1), (2, .int v2), (3, .int v3), (4, .ref (mB E + 105))]) rfl ?_
  refine h_iconst hC dL_game_21 (v := (2 : Int32)) (by decide) ?_
  exact h_xiret hC hE rfl dL_game_22 (by decide) (by decide) ⟨rfl, rfl, rfl, rfl, rfl, rfl⟩
def mL_towers : mMt := (yL_towers, cL_towers, 6, some .int, 13, 281)
set_option maxRecDepth 20000 in
theorem ow_towers_r {l : Launch} {E : mEn} {Fu : Nat} {I : mIT} {R : mRT} {L : mLT} {v1 : Int32} {v2 : Int32} {v3 : Int32} (hst : l.stackTraces = false) (hW : mWd R) {o : Int32 × mIT} (h : f_X11_towers Fu R I v1 v2 v3 = some (.inl o)) : mOw l E mL_towers [(0, 12, 15, 18), (0, 12, 19, 13)] [.ref (mB E + 0), .int v1, .int v2, .int v3, .ref (mB E + 105)] 106 1 I R L 1 6 (mSame (some (.int 0)) 106 1 (o.2) R (mUL L 105 0 (o.1).toInt64)) := by
  refine mOw_of hst (by decide) (Nat.le_of_ble_eq_true rfl) (fun X hC hE _ => ?_)
  have hC : mD X E mL_towers RL cL_towers [(0, 12, 15, 18), (0, 12, 19, 13)] := hC
  show mG X E 0 [(0, .ref (mB E + 0)), (1, .int v1), (2, .int v2), (3, .int v3), (4, .ref (mB E + 105))] [] 106 1 I R L 0 0
  refine h_aload hC dL_towers_0 (q := 4) rfl ?_
  refine h_iconst hC dL_towers_2 (v := (0 : Int32)) (by decide) ?_
  refine h_aload_n hC dL_towers_3 (i := 0) rfl (q := 0) rfl ?_
  refine h_iload_n hC dL_towers_4 (i := 1) rfl (q := 1) rfl ?_
  refine h_iload_n hC dL_towers_5 (i := 2) rfl (q := 2) rfl ?_
  refine h_iload_n hC dL_towers_6 (i := 3) rfl (q := 3) rfl ?_
  refine h_cV1 hC cv_X11_towers wd_1503 ⟨Nat.le_of_ble_eq_true rfl, Nat.le_of_ble_eq_true rfl⟩ rfl (by decide) dL_towers_7 (As := [.int v1, .int v2, .int v3]) (st := [.int (0 : Int32), .ref (mB E + 105)]) (oi_X11_towers hC.2.2.2.2.2.2.2.1 hW h) rfl rfl (Nat.le_of_ble_eq_true rfl) (by rw [hE.1]; exact ⟨by decide, by decide⟩) ?_
  refine h_i2l hC dL_towers_10 ?_
  refine h_last hC (len := 1) rfl (by decide) (inB_in (by decide)) dL_towers_11 (nm_e ?_)
  refine h_goto hC dL_towers_12 (tgt := 23) (by decide) ?_
  refine h_iconst hC dL_towers_23 (v := (0 : Int32)) (by decide) ?_
  exact h_xiret hC hE rfl dL_towers_24 (by decide) (by decide) ⟨rfl, rfl, rfl, rfl, rfl, rfl⟩
set_option maxRecDepth 20000 in
theorem ow_towers_t1 {l : Launch} {E : mEn} {Fu : Nat} {I : mIT} {R : mRT} {L : mLT} {v1 : Int32} {v2 : Int32} {v3 : Int32} (hst : l.stackTraces = false) (hW : mWd R) {I1 : mIT} (h : f_X11_towers Fu R I v1 v2 v3 = some (.inr (1, I1))) : mOw l E mL_towers [(0, 12, 15, 18), (0, 12, 19, 13)] [.ref (mB E + 0), .int v1, .int v2, .int v3, .ref (mB E + 105)] 106 1 I R L 1 6 (mSame (some (.int 1)) 106 1 I1 R L) := by
  refine mOw_of hst (by decide) (Nat.le_of_ble_eq_true rfl) (fun X hC hE _ => ?_)
  have hC : mD X E mL_towers RL cL_towers [(0, 12, 15, 18), (0, 12, 19, 13)] := hC
  show mG X E 0 [(0, .ref (mB E + 0)), (1, .int v1), (2, .int v2), (3, .int v3), (4, .ref (mB E + 105))] [] 106 1 I R L 0 0
  refine h_aload hC dL_towers_0 (q := 4) rfl ?_
  refine h_iconst hC dL_towers_2 (v := (0 : Int32)) (by decide) ?_
  refine h_aload_n hC dL_towers_3 (i := 0) rfl (q := 0) rfl ?_
  refine h_iload_n hC dL_towers_4 (i := 1) rfl (q := 1) rfl ?_
  refine h_iload_n hC dL_towers_5 (i := 2) rfl (q := 2) rfl ?_
  refine h_iload_n hC dL_towers_6 (i := 3) rfl (q := 3) rfl ?_
  refine h_cVc hC cv_X11_towers wd_1503 ⟨Nat.le_of_ble_eq_true rfl, Nat.le_of_ble_eq_true rfl⟩ rfl (by decide) dL_towers_7 (As := [.int v1, .int v2, .int v3]) (st := [.int (0 : Int32), .ref (mB E + 105)]) (ox_X11_towers hC.2.2.2.2.2.2.2.1 hW h) rfl rfl (Nat.le_of_ble_eq_true rfl) (by rw [hE.1]; exact ⟨by decide, by decide⟩) [] [(0, 12, 19, 13)] (0, 12, 15, 18) rfl (fun z hz => by cases hz) (by decide) (by decide) wd_1141 (va_Nw.use rfl hC.2.2.2.1.2.2.2.2.2.2.1) (fun q9 => ?_)
  refine h_astore hC dL_towers_15 rfl (by decide) (lv' := [(5, .ref q9), (0, .ref (mB E + 0)), (1, .int v1), (2, .int v2), (3, .int v3), (4, .ref (mB E + 105))]) rfl ?_
  refine h_iconst hC dL_towers_17 (v := (1 : Int32)) (by decide) ?_
  exact h_xiret hC hE rfl dL_towers_18 (by decide) (by decide) ⟨rfl, rfl, rfl, rfl, rfl, rfl⟩
set_option maxRecDepth 20000 in
theorem ow_towers_t2 {l : Launch} {E : mEn} {Fu : Nat} {I : mIT} {R : mRT} {L : mLT} {v1 : Int32} {v2 : Int32} {v3 : Int32} (hst : l.stackTraces = false) (hW : mWd R) {I1 : mIT} (h : f_X11_towers Fu R I v1 v2 v3 = some (.inr (2, I1))) : mOw l E mL_towers [(0, 12, 15, 18), (0, 12, 19, 13)] [.ref (mB E + 0), .int v1, .int v2, .int v3, .ref (mB E + 105)] 106 1 I R L 1 6 (mSame (some (.int 2)) 106 1 I1 R L) := by
  refine mOw_of hst (by decide) (Nat.le_of_ble_eq_true rfl) (fun X hC hE _ => ?_)
  have hC : mD X E mL_towers RL cL_towers [(0, 12, 15, 18), (0, 12, 19, 13)] := hC
  show mG X E 0 [(0, .ref (mB E + 0)), (1, .int v1), (2, .int v2), (3, .int v3), (4, .ref (mB E + 105))] [] 106 1 I R L 0 0
  refine h_aload hC dL_towers_0 (q := 4) rfl ?_
  refine h_iconst hC dL_towers_2 (v := (0 : Int32)) (by decide) ?_
  refine h_aload_n hC dL_towers_3 (i := 0) rfl (q := 0) rfl ?_
  refine h_iload_n hC dL_towers_4 (i := 1) rfl (q := 1) rfl ?_
  refine h_iload_n hC dL_towers_5 (i := 2) rfl (q := 2) rfl ?_
  refine h_iload_n hC dL_towers_6 (i := 3) rfl (q := 3) rfl ?_
  refine h_cVc hC cv_X11_towers wd_1503 ⟨Nat.le_of_ble_eq_true rfl, Nat.le_of_ble_eq_true rfl⟩ rfl (by decide) dL_towers_7 (As := [.int v1, .int v2, .int v3]) (st := [.int (0 : Int32), .ref (mB E + 105)]) (ox_X11_towers hC.2.2.2.2.2.2.2.1 hW h) rfl rfl (Nat.le_of_ble_eq_true rfl) (by rw [hE.1]; exact ⟨by decide, by decide⟩) [(0, 12, 15, 18)] [] (0, 12, 19, 13) rfl (fun z hz => by
    rcases List.mem_singleton.mp hz with rfl
    exact Or.inr ⟨by decide, _, wd_1141, hC.2.2.2.2.2.2.1.2⟩) (by decide) (by decide) wd_837 (va_Nw.use rfl hC.2.2.2.1.2.2.2.2.2.1) (fun q9 => ?_)
  refine h_astore hC dL_towers_19 rfl (by decide) (lv' := [(5, .ref q9), (0, .ref (mB E + 0)), (1, .int v1), (2, .int v2), (3, .int v3), (4, .ref (mB E + 105))]) rfl ?_
  refine h_iconst hC dL_towers_21 (v := (2 : Int32)) (by decide) ?_
  exact h_xiret hC hE rfl dL_towers_22 (by decide) (by decide) ⟨rfl, rfl, rfl, rfl, rfl, rfl⟩
def mL_needed : mMt := (yL_needed, cL_needed, 5, some .int, 13, 281)
set_option maxRecDepth 20000 in
theorem ow_needed_r {l : Launch} {E : mEn} {Fu : Nat} {I : mIT} {R : mRT} {L : mLT} {v1 : Int32} {v2 : Int32} (hst : l.stackTraces = false) (hW : mWd R) {o : Int32 × mIT} (h : f_X11_needed Fu R I v1 v2 = some (.inl o)) : mOw l E mL_needed [(0, 10, 13, 18)] [.ref (mB E + 0), .int v1, .int v2, .ref (mB E + 105)] 106 1 I R L 1 6 (mSame (some (.int 0)) 106 1 (o.2) R (mUL L 105 0 (o.1).toInt64)) := by
  refine mOw_of hst (by decide) (Nat.le_of_ble_eq_true rfl) (fun X hC hE _ => ?_)
  have hC : mD X E mL_needed RL cL_needed [(0, 10, 13, 18)] := hC
  show mG X E 0 [(0, .ref (mB E + 0)), (1, .int v1), (2, .int v2), (3, .ref (mB E + 105))] [] 106 1 I R L 0 0
  refine h_aload_n hC dL_needed_0 (i := 3) rfl (q := 3) rfl ?_
  refine h_iconst hC dL_needed_1 (v := (0 : Int32)) (by decide) ?_
  refine h_aload_n hC dL_needed_2 (i := 0) rfl (q := 0) rfl ?_
  refine h_iload_n hC dL_needed_3 (i := 1) rfl (q := 1) rfl ?_
  refine h_iload_n hC dL_needed_4 (i := 2) rfl (q := 2) rfl ?_
  refine h_cV1 hC cv_X11_needed wd_1543 ⟨Nat.le_of_ble_eq_true rfl, Nat.le_of_ble_eq_true rfl⟩ rfl (by decide) dL_needed_5 (As := [.int v1, .int v2]) (st := [.int (0 : Int32), .ref (mB E + 105)]) (oi_X11_needed hC.2.2.2.2.2.2.2.1 hW h) rfl rfl (Nat.le_of_ble_eq_true rfl) (by rw [hE.1]; exact ⟨by decide, by decide⟩) ?_
  refine h_i2l hC dL_needed_8 ?_
  refine h_last hC (len := 1) rfl (by decide) (inB_in (by decide)) dL_needed_9 (nm_e ?_)
  refine h_goto hC dL_needed_10 (tgt := 17) (by decide) ?_
  refine h_iconst hC dL_needed_17 (v := (0 : Int32)) (by decide) ?_
  exact h_xiret hC hE rfl dL_needed_18 (by decide) (by decide) ⟨rfl, rfl, rfl, rfl, rfl, rfl⟩
set_option maxRecDepth 20000 in
theorem ow_needed_t1 {l : Launch} {E : mEn} {Fu : Nat} {I : mIT} {R : mRT} {L : mLT} {v1 : Int32} {v2 : Int32} (hst : l.stackTraces = false) (hW : mWd R) {I1 : mIT} (h : f_X11_needed Fu R I v1 v2 = some (.inr (1, I1))) : mOw l E mL_needed [(0, 10, 13, 18)] [.ref (mB E + 0), .int v1, .int v2, .ref (mB E + 105)] 106 1 I R L 1 6 (mSame (some (.int 1)) 106 1 I1 R L) := by
  refine mOw_of hst (by decide) (Nat.le_of_ble_eq_true rfl) (fun X hC hE _ => ?_)
  have hC : mD X E mL_needed RL cL_needed [(0, 10, 13, 18)] := hC
  show mG X E 0 [(0, .ref (mB E + 0)), (1, .int v1), (2, .int v2), (3, .ref (mB E + 105))] [] 106 1 I R L 0 0
  refine h_aload_n hC dL_needed_0 (i := 3) rfl (q := 3) rfl ?_
  refine h_iconst hC dL_needed_1 (v := (0 : Int32)) (by decide) ?_
  refine h_aload_n hC dL_needed_2 (i := 0) rfl (q := 0) rfl ?_
  refine h_iload_n hC dL_needed_3 (i := 1) rfl (q := 1) rfl ?_
  refine h_iload_n hC dL_needed_4 (i := 2) rfl (q := 2) rfl ?_
  refine h_cVc hC cv_X11_needed wd_1543 ⟨Nat.le_of_ble_eq_true rfl, Nat.le_of_ble_eq_true rfl⟩ rfl (by decide) dL_needed_5 (As := [.int v1, .int v2]) (st := [.int (0 : Int32), .ref (mB E + 105)]) (ox_X11_needed hC.2.2.2.2.2.2.2.1 hW h) rfl rfl (Nat.le_of_ble_eq_true rfl) (by rw [hE.1]; exact ⟨by decide, by decide⟩) [] [] (0, 10, 13, 18) rfl (fun z hz => by cases hz) (by decide) (by decide) wd_1141 (va_Nw.use rfl hC.2.2.2.1.2.2.2.2.2.2.1) (fun q9 => ?_)
  refine h_astore hC dL_needed_13 rfl (by decide) (lv' := [(4, .ref q9), (0, .ref (mB E + 0)), (1, .int v1), (2, .int v2), (3, .ref (mB E + 105))]) rfl ?_
  refine h_iconst hC dL_needed_15 (v := (1 : Int32)) (by decide) ?_
  exact h_xiret hC hE rfl dL_needed_16 (by decide) (by decide) ⟨rfl, rfl, rfl, rfl, rfl, rfl⟩
def mL_grown : mMt := (yL_grown, cL_grown, 5, some .int, 13, 281)
set_option maxRecDepth 20000 in
theorem ow_grown_r {l : Launch} {E : mEn} {Fu : Nat} {I : mIT} {R : mRT} {L : mLT} {v1 : Int32} {v2 : Int32} (hst : l.stackTraces = false) (hW : mWd R) {o : Int32 × mIT} (h : f_X11_grown Fu R I v1 v2 = some (.inl o)) : mOw l E mL_grown [(0, 10, 13, 18)] [.ref (mB E + 0), .int v1, .int v2, .ref (mB E + 105)] 106 1 I R L 1 6 (mSame (some (.int 0)) 106 1 (o.2) R (mUL L 105 0 (o.1).toInt64)) := by
  refine mOw_of hst (by decide) (Nat.le_of_ble_eq_true rfl) (fun X hC hE _ => ?_)
  have hC : mD X E mL_grown RL cL_grown [(0, 10, 13, 18)] := hC
  show mG X E 0 [(0, .ref (mB E + 0)), (1, .int v1), (2, .int v2), (3, .ref (mB E + 105))] [] 106 1 I R L 0 0
  refine h_aload_n hC dL_grown_0 (i := 3) rfl (q := 3) rfl ?_
  refine h_iconst hC dL_grown_1 (v := (0 : Int32)) (by decide) ?_
  refine h_aload_n hC dL_grown_2 (i := 0) rfl (q := 0) rfl ?_
  refine h_iload_n hC dL_grown_3 (i := 1) rfl (q := 1) rfl ?_
  refine h_iload_n hC dL_grown_4 (i := 2) rfl (q := 2) rfl ?_
  refine h_cV1 hC cv_X11_grown wd_1561 ⟨Nat.le_of_ble_eq_true rfl, Nat.le_of_ble_eq_true rfl⟩ rfl (by decide) dL_grown_5 (As := [.int v1, .int v2]) (st := [.int (0 : Int32), .ref (mB E + 105)]) (oi_X11_grown hC.2.2.2.2.2.2.2.1 hW h) rfl rfl (Nat.le_of_ble_eq_true rfl) (by rw [hE.1]; exact ⟨by decide, by decide⟩) ?_
  refine h_i2l hC dL_grown_8 ?_
  refine h_last hC (len := 1) rfl (by decide) (inB_in (by decide)) dL_grown_9 (nm_e ?_)
  refine h_goto hC dL_grown_10 (tgt := 17) (by decide) ?_
  refine h_iconst hC dL_grown_17 (v := (0 : Int32)) (by decide) ?_
  exact h_xiret hC hE rfl dL_grown_18 (by decide) (by decide) ⟨rfl, rfl, rfl, rfl, rfl, rfl⟩
set_option maxRecDepth 20000 in
theorem ow_grown_t1 {l : Launch} {E : mEn} {Fu : Nat} {I : mIT} {R : mRT} {L : mLT} {v1 : Int32} {v2 : Int32} (hst : l.stackTraces = false) (hW : mWd R) {I1 : mIT} (h : f_X11_grown Fu R I v1 v2 = some (.inr (1, I1))) : mOw l E mL_grown [(0, 10, 13, 18)] [.ref (mB E + 0), .int v1, .int v2, .ref (mB E + 105)] 106 1 I R L 1 6 (mSame (some (.int 1)) 106 1 I1 R L) := by
  refine mOw_of hst (by decide) (Nat.le_of_ble_eq_true rfl) (fun X hC hE _ => ?_)
  have hC : mD X E mL_grown RL cL_grown [(0, 10, 13, 18)] := hC
  show mG X E 0 [(0, .ref (mB E + 0)), (1, .int v1), (2, .int v2), (3, .ref (mB E + 105))] [] 106 1 I R L 0 0
  refine h_aload_n hC dL_grown_0 (i := 3) rfl (q := 3) rfl ?_
  refine h_iconst hC dL_grown_1 (v := (0 : Int32)) (by decide) ?_
  refine h_aload_n hC dL_grown_2 (i := 0) rfl (q := 0) rfl ?_
  refine h_iload_n hC dL_grown_3 (i := 1) rfl (q := 1) rfl ?_
  refine h_iload_n hC dL_grown_4 (i := 2) rfl (q := 2) rfl ?_
  refine h_cVc hC cv_X11_grown wd_1561 ⟨Nat.le_of_ble_eq_true rfl, Nat.le_of_ble_eq_true rfl⟩ rfl (by decide) dL_grown_5 (As := [.int v1, .int v2]) (st := [.int (0 : Int32), .ref (mB E + 105)]) (ox_X11_grown hC.2.2.2.2.2.2.2.1 hW h) rfl rfl (Nat.le_of_ble_eq_true rfl) (by rw [hE.1]; exact ⟨by decide, by decide⟩) [] [] (0, 10, 13, 18) rfl (fun z hz => by cases hz) (by decide) (by decide) wd_1141 (va_Nw.use rfl hC.2.2.2.1.2.2.2.2.2.2.1) (fun q9 => ?_)
  refine h_astore hC dL_grown_13 rfl (by decide) (lv' := [(4, .ref q9), (0, .ref (mB E + 0)), (1, .int v1), (2, .int v2), (3, .ref (mB E + 105))]) rfl ?_
  refine h_iconst hC dL_grown_15 (v := (1 : Int32)) (by decide) ?_
  exact h_xiret hC hE rfl dL_grown_16 (by decide) (by decide) ⟨rfl, rfl, rfl, rfl, rfl, rfl⟩
def mL_scale : mMt := (yL_scale, cL_scale, 4, some .int, 13, 281)
set_option maxRecDepth 20000 in
theorem ow_scale_r {l : Launch} {E : mEn} {Fu : Nat} {I : mIT} {R : mRT} {L : mLT} {v1 : Int32} (hst : l.stackTraces = false) (hW : mWd R) {o : Int32 × mIT} (h : f_X11_scale Fu R I v1 = some (.inl o)) : mOw l E mL_scale [(0, 9, 12, 18)] [.ref (mB E + 0), .int v1, .ref (mB E + 105)] 106 1 I R L 1 6 (mSame (some (.int 0)) 106 1 (o.2) R (mUL L 105 0 (o.1).toInt64)) := by
  refine mOw_of hst (by decide) (Nat.le_of_ble_eq_true rfl) (fun X hC hE _ => ?_)
  have hC : mD X E mL_scale RL cL_scale [(0, 9, 12, 18)] := hC
  show mG X E 0 [(0, .ref (mB E + 0)), (1, .int v1), (2, .ref (mB E + 105))] [] 106 1 I R L 0 0
  refine h_aload_n hC dL_scale_0 (i := 2) rfl (q := 2) rfl ?_
  refine h_iconst hC dL_scale_1 (v := (0 : Int32)) (by decide) ?_
  refine h_aload_n hC dL_scale_2 (i := 0) rfl (q := 0) rfl ?_
  refine h_iload_n hC dL_scale_3 (i := 1) rfl (q := 1) rfl ?_
  refine h_cV1 hC cv_X11_scale wd_1568 ⟨Nat.le_of_ble_eq_true rfl, Nat.le_of_ble_eq_true rfl⟩ rfl (by decide) dL_scale_4 (As := [.int v1]) (st := [.int (0 : Int32), .ref (mB E + 105)]) (oi_X11_scale hC.2.2.2.2.2.2.2.1 hW h) rfl rfl (Nat.le_of_ble_eq_true rfl) (by rw [hE.1]; exact ⟨by decide, by decide⟩) ?_
  refine h_i2l hC dL_scale_7 ?_
  refine h_last hC (len := 1) rfl (by decide) (inB_in (by decide)) dL_scale_8 (nm_e ?_)
  refine h_goto hC dL_scale_9 (tgt := 15) (by decide) ?_
  refine h_iconst hC dL_scale_15 (v := (0 : Int32)) (by decide) ?_
  exact h_xiret hC hE rfl dL_scale_16 (by decide) (by decide) ⟨rfl, rfl, rfl, rfl, rfl, rfl⟩
set_option maxRecDepth 20000 in
theorem ow_scale_t1 {l : Launch} {E : mEn} {Fu : Nat} {I : mIT} {R : mRT} {L : mLT} {v1 : Int32} (hst : l.stackTraces = false) (hW : mWd R) {I1 : mIT} (h : f_X11_scale Fu R I v1 = some (.inr (1, I1))) : mOw l E mL_scale [(0, 9, 12, 18)] [.ref (mB E + 0), .int v1, .ref (mB E + 105)] 106 1 I R L 1 6 (mSame (some (.int 1)) 106 1 I1 R L) := by
  refine mOw_of hst (by decide) (Nat.le_of_ble_eq_true rfl) (fun X hC hE _ => ?_)
  have hC : mD X E mL_scale RL cL_scale [(0, 9, 12, 18)] := hC
  show mG X E 0 [(0, .ref (mB E + 0)), (1, .int v1), (2, .ref (mB E + 105))] [] 106 1 I R L 0 0
  refine h_aload_n hC dL_scale_0 (i := 2) rfl (q := 2) rfl ?_
  refine h_iconst hC dL_scale_1 (v := (0 : Int32)) (by decide) ?_
  refine h_aload_n hC dL_scale_2 (i := 0) rfl (q := 0) rfl ?_
  refine h_iload_n hC dL_scale_3 (i := 1) rfl (q := 1) rfl ?_
  refine h_cVc hC cv_X11_scale wd_1568 ⟨Nat.le_of_ble_eq_true rfl, Nat.le_of_ble_eq_true rfl⟩ rfl (by decide) dL_scale_4 (As := [.int v1]) (st := [.int (0 : Int32), .ref (mB E + 105)]) (ox_X11_scale hC.2.2.2.2.2.2.2.1 hW h) rfl rfl (Nat.le_of_ble_eq_true rfl) (by rw [hE.1]; exact ⟨by decide, by decide⟩) [] [] (0, 9, 12, 18) rfl (fun z hz => by cases hz) (by decide) (by decide) wd_1141 (va_Nw.use rfl hC.2.2.2.1.2.2.2.2.2.2.1) (fun q9 => ?_)
  refine h_astore_n hC dL_scale_12 rfl rfl (by decide) (lv' := [(3, .ref q9), (0, .ref (mB E + 0)), (1, .int v1), (2, .ref (mB E + 105))]) rfl ?_
  refine h_iconst hC dL_scale_13 (v := (1 : Int32)) (by decide) ?_
  exact h_xiret hC hE rfl dL_scale_14 (by decide) (by decide) ⟨rfl, rfl, rfl, rfl, rfl, rfl⟩
def mL_mouth : mMt := (yL_mouth, cL_mouth, 4, some .int, 13, 281)
set_option maxRecDepth 20000 in
theorem ow_mouth_r {l : Launch} {E : mEn} {Fu : Nat} {I : mIT} {R : mRT} {L : mLT} {v1 : Int32} (hst : l.stackTraces = false) (hW : mWd R) {o : Int32 × mIT} (h : f_X11_mouth Fu R I v1 = some (.inl o)) : mOw l E mL_mouth [(0, 9, 12, 18)] [.ref (mB E + 0), .int v1, .ref (mB E + 105)] 106 1 I R L 1 6 (mSame (some (.int 0)) 106 1 (o.2) R (mUL L 105 0 (o.1).toInt64)) := by
  refine mOw_of hst (by decide) (Nat.le_of_ble_eq_true rfl) (fun X hC hE _ => ?_)
  have hC : mD X E mL_mouth RL cL_mouth [(0, 9, 12, 18)] := hC
  show mG X E 0 [(0, .ref (mB E + 0)), (1, .int v1), (2, .ref (mB E + 105))] [] 106 1 I R L 0 0
  refine h_aload_n hC dL_mouth_0 (i := 2) rfl (q := 2) rfl ?_
  refine h_iconst hC dL_mouth_1 (v := (0 : Int32)) (by decide) ?_
  refine h_aload_n hC dL_mouth_2 (i := 0) rfl (q := 0) rfl ?_
  refine h_iload_n hC dL_mouth_3 (i := 1) rfl (q := 1) rfl ?_
  refine h_cV1 hC cv_X11_mouth wd_1575 ⟨Nat.le_of_ble_eq_true rfl, Nat.le_of_ble_eq_true rfl⟩ rfl (by decide) dL_mouth_4 (As := [.int v1]) (st := [.int (0 : Int32), .ref (mB E + 105)]) (oi_X11_mouth hC.2.2.2.2.2.2.2.1 hW h) rfl rfl (Nat.le_of_ble_eq_true rfl) (by rw [hE.1]; exact ⟨by decide, by decide⟩) ?_
  refine h_i2l hC dL_mouth_7 ?_
  refine h_last hC (len := 1) rfl (by decide) (inB_in (by decide)) dL_mouth_8 (nm_e ?_)
  refine h_goto hC dL_mouth_9 (tgt := 15) (by decide) ?_
  refine h_iconst hC dL_mouth_15 (v := (0 : Int32)) (by decide) ?_
  exact h_xiret hC hE rfl dL_mouth_16 (by decide) (by decide) ⟨rfl, rfl, rfl, rfl, rfl, rfl⟩
set_option maxRecDepth 20000 in
theorem ow_mouth_t1 {l : Launch} {E : mEn} {Fu : Nat} {I : mIT} {R : mRT} {L : mLT} {v1 : Int32} (hst : l.stackTraces = false) (hW : mWd R) {I1 : mIT} (h : f_X11_mouth Fu R I v1 = some (.inr (1, I1))) : mOw l E mL_mouth [(0, 9, 12, 18)] [.ref (mB E + 0), .int v1, .ref (mB E + 105)] 106 1 I R L 1 6 (mSame (some (.int 1)) 106 1 I1 R L) := by
  refine mOw_of hst (by decide) (Nat.le_of_ble_eq_true rfl) (fun X hC hE _ => ?_)
  have hC : mD X E mL_mouth RL cL_mouth [(0, 9, 12, 18)] := hC
  show mG X E 0 [(0, .ref (mB E + 0)), (1, .int v1), (2, .ref (mB E + 105))] [] 106 1 I R L 0 0
  refine h_aload_n hC dL_mouth_0 (i := 2) rfl (q := 2) rfl ?_
  refine h_iconst hC dL_mouth_1 (v := (0 : Int32)) (by decide) ?_
  refine h_aload_n hC dL_mouth_2 (i := 0) rfl (q := 0) rfl ?_
  refine h_iload_n hC dL_mouth_3 (i := 1) rfl (q := 1) rfl ?_
  refine h_cVc hC cv_X11_mouth wd_1575 ⟨Nat.le_of_ble_eq_true rfl, Nat.le_of_ble_eq_true rfl⟩ rfl (by decide) dL_mouth_4 (As := [.int v1]) (st := [.int (0 : Int32), .ref (mB E + 105)]) (ox_X11_mouth hC.2.2.2.2.2.2.2.1 hW h) rfl rfl (Nat.le_of_ble_eq_true rfl) (by rw [hE.1]; exact ⟨by decide, by decide⟩) [] [] (0, 9, 12, 18) rfl (fun z hz => by cases hz) (by decide) (by decide) wd_1141 (va_Nw.use rfl hC.2.2.2.1.2.2.2.2.2.2.1) (fun q9 => ?_)
  refine h_astore_n hC dL_mouth_12 rfl rfl (by decide) (lv' := [(3, .ref q9), (0, .ref (mB E + 0)), (1, .int v1), (2, .ref (mB E + 105))]) rfl ?_
  refine h_iconst hC dL_mouth_13 (v := (1 : Int32)) (by decide) ?_
  exact h_xiret hC hE rfl dL_mouth_14 (by decide) (by decide) ⟨rfl, rfl, rfl, rfl, rfl, rfl⟩
def mL_leads : mMt := (yL_leads, cL_leads, 4, some .int, 13, 281)
set_option maxRecDepth 20000 in
theorem ow_leads_r {l : Launch} {E : mEn} {Fu : Nat} {I : mIT} {R : mRT} {L : mLT} {v1 : Int32} (hst : l.stackTraces = false) (hW : mWd R) {o : Int32 × mIT} (h : f_X11_leads Fu R I v1 = some (.inl o)) : mOw l E mL_leads [(0, 9, 12, 18)] [.ref (mB E + 0), .int v1, .ref (mB E + 105)] 106 1 I R L 1 6 (mSame (some (.int 0)) 106 1 (o.2) R (mUL L 105 0 (o.1).toInt64)) := by
  refine mOw_of hst (by decide) (Nat.le_of_ble_eq_true rfl) (fun X hC hE _ => ?_)
  have hC : mD X E mL_leads RL cL_leads [(0, 9, 12, 18)] := hC
  show mG X E 0 [(0, .ref (mB E + 0)), (1, .int v1), (2, .ref (mB E + 105))] [] 106 1 I R L 0 0
  refine h_aload_n hC dL_leads_0 (i := 2) rfl (q := 2) rfl ?_
  refine h_iconst hC dL_leads_1 (v := (0 : Int32)) (by decide) ?_
  refine h_aload_n hC dL_leads_2 (i := 0) rfl (q := 0) rfl ?_
  refine h_iload_n hC dL_leads_3 (i := 1) rfl (q := 1) rfl ?_
  refine h_cV1 hC cv_X11_leads wd_1586 ⟨Nat.le_of_ble_eq_true rfl, Nat.le_of_ble_eq_true rfl⟩ rfl (by decide) dL_leads_4 (As := [.int v1]) (st := [.int (0 : Int32), .ref (mB E + 105)]) (oi_X11_leads hC.2.2.2.2.2.2.2.1 hW h) rfl rfl (Nat.le_of_ble_eq_true rfl) (by rw [hE.1]; exact ⟨by decide, by decide⟩) ?_
  refine h_i2l hC dL_leads_7 ?_
  refine h_last hC (len := 1) rfl (by decide) (inB_in (by decide)) dL_leads_8 (nm_e ?_)
  refine h_goto hC dL_leads_9 (tgt := 15) (by decide) ?_
  refine h_iconst hC dL_leads_15 (v := (0 : Int32)) (by decide) ?_
  exact h_xiret hC hE rfl dL_leads_16 (by decide) (by decide) ⟨rfl, rfl, rfl, rfl, rfl, rfl⟩
set_option maxRecDepth 20000 in
theorem ow_leads_t1 {l : Launch} {E : mEn} {Fu : Nat} {I : mIT} {R : mRT} {L : mLT} {v1 : Int32} (hst : l.stackTraces = false) (hW : mWd R) {I1 : mIT} (h : f_X11_leads Fu R I v1 = some (.inr (1, I1))) : mOw l E mL_leads [(0, 9, 12, 18)] [.ref (mB E + 0), .int v1, .ref (mB E + 105)] 106 1 I R L 1 6 (mSame (some (.int 1)) 106 1 I1 R L) := by
  refine mOw_of hst (by decide) (Nat.le_of_ble_eq_true rfl) (fun X hC hE _ => ?_)
  have hC : mD X E mL_leads RL cL_leads [(0, 9, 12, 18)] := hC
  show mG X E 0 [(0, .ref (mB E + 0)), (1, .int v1), (2, .ref (mB E + 105))] [] 106 1 I R L 0 0
  refine h_aload_n hC dL_leads_0 (i := 2) rfl (q := 2) rfl ?_
  refine h_iconst hC dL_leads_1 (v := (0 : Int32)) (by decide) ?_
  refine h_aload_n hC dL_leads_2 (i := 0) rfl (q := 0) rfl ?_
  refine h_iload_n hC dL_leads_3 (i := 1) rfl (q := 1) rfl ?_
  refine h_cVc hC cv_X11_leads wd_1586 ⟨Nat.le_of_ble_eq_true rfl, Nat.le_of_ble_eq_true rfl⟩ rfl (by decide) dL_leads_4 (As := [.int v1]) (st := [.int (0 : Int32), .ref (mB E + 105)]) (ox_X11_leads hC.2.2.2.2.2.2.2.1 hW h) rfl rfl (Nat.le_of_ble_eq_true rfl) (by rw [hE.1]; exact ⟨by decide, by decide⟩) [] [] (0, 9, 12, 18) rfl (fun z hz => by cases hz) (by decide) (by decide) wd_1141 (va_Nw.use rfl hC.2.2.2.1.2.2.2.2.2.2.1) (fun q9 => ?_)
  refine h_astore_n hC dL_leads_12 rfl rfl (by decide) (lv' := [(3, .ref q9), (0, .ref (mB E + 0)), (1, .int v1), (2, .ref (mB E + 105))]) rfl ?_
  refine h_iconst hC dL_leads_13 (v := (1 : Int32)) (by decide) ?_
  exact h_xiret hC hE rfl dL_leads_14 (by decide) (by decide) ⟨rfl, rfl, rfl, rfl, rfl, rfl⟩
def mL_meets : mMt := (yL_meets, cL_meets, 5, some .int, 13, 281)
set_option maxRecDepth 20000 in
theorem ow_meets_r {l : Launch} {E : mEn} {Fu : Nat} {I : mIT} {R : mRT} {L : mLT} {v1 : Int32} {v2 : Int32} (hst : l.stackTraces = false) (hW : mWd R) {o : Int32 × mIT} (h : f_X11_meets Fu R I v1 v2 = some (.inl o)) : mOw l E mL_meets [(0, 10, 13, 18)] [.ref (mB E + 0), .int v1, .int v2, .ref (mB E + 105)] 106 1 I R L 1 6 (mSame (some (.int 0)) 106 1 (o.2) R (mUL L 105 0 (o.1).toInt64)) := by
  refine mOw_of hst (by decide) (Nat.le_of_ble_eq_true rfl) (fun X hC hE _ => ?_)
  have hC : mD X E mL_meets RL cL_meets [(0, 10, 13, 18)] := hC
  show mG X E 0 [(0, .ref (mB E + 0)), (1, .int v1), (2, .int v2), (3, .ref (mB E + 105))] [] 106 1 I R L 0 0
  refine h_aload_n hC dL_meets_0 (i := 3) rfl (q := 3) rfl ?_
  refine h_iconst hC dL_meets_1 (v := (0 : Int32)) (by decide) ?_
  refine h_aload_n hC dL_meets_2 (i := 0) rfl (q := 0) rfl ?_
  refine h_iload_n hC dL_meets_3 (i := 1) rfl (q := 1) rfl ?_
  refine h_iload_n hC dL_meets_4 (i := 2) rfl (q := 2) rfl ?_
  refine h_cV1 hC cv_X11_meets wd_1602 ⟨Nat.le_of_ble_eq_true rfl, Nat.le_of_ble_eq_true rfl⟩ rfl (by decide) dL_meets_5 (As := [.int v1, .int v2]) (st := [.int (0 : Int32), .ref (mB E + 105)]) (oi_X11_meets hC.2.2.2.2.2.2.2.1 hW h) rfl rfl (Nat.le_of_ble_eq_true rfl) (by rw [hE.1]; exact ⟨by decide, by decide⟩) ?_
  refine h_i2l hC dL_meets_8 ?_
  refine h_last hC (len := 1) rfl (by decide) (inB_in (by decide)) dL_meets_9 (nm_e ?_)
  refine h_goto hC dL_meets_10 (tgt := 17) (by decide) ?_
  refine h_iconst hC dL_meets_17 (v := (0 : Int32)) (by decide) ?_
  exact h_xiret hC hE rfl dL_meets_18 (by decide) (by decide) ⟨rfl, rfl, rfl, rfl, rfl, rfl⟩
set_option maxRecDepth 20000 in
theorem ow_meets_t1 {l : Launch} {E : mEn} {Fu : Nat} {I : mIT} {R : mRT} {L : mLT} {v1 : Int32} {v2 : Int32} (hst : l.stackTraces = false) (hW : mWd R) {I1 : mIT} (h : f_X11_meets Fu R I v1 v2 = some (.inr (1, I1))) : mOw l E mL_meets [(0, 10, 13, 18)] [.ref (mB E + 0), .int v1, .int v2, .ref (mB E + 105)] 106 1 I R L 1 6 (mSame (some (.int 1)) 106 1 I1 R L) := by
  refine mOw_of hst (by decide) (Nat.le_of_ble_eq_true rfl) (fun X hC hE _ => ?_)
  have hC : mD X E mL_meets RL cL_meets [(0, 10, 13, 18)] := hC
  show mG X E 0 [(0, .ref (mB E + 0)), (1, .int v1), (2, .int v2), (3, .ref (mB E + 105))] [] 106 1 I R L 0 0
  refine h_aload_n hC dL_meets_0 (i := 3) rfl (q := 3) rfl ?_
  refine h_iconst hC dL_meets_1 (v := (0 : Int32)) (by decide) ?_
  refine h_aload_n hC dL_meets_2 (i := 0) rfl (q := 0) rfl ?_
  refine h_iload_n hC dL_meets_3 (i := 1) rfl (q := 1) rfl ?_
  refine h_iload_n hC dL_meets_4 (i := 2) rfl (q := 2) rfl ?_
  refine h_cVc hC cv_X11_meets wd_1602 ⟨Nat.le_of_ble_eq_true rfl, Nat.le_of_ble_eq_true rfl⟩ rfl (by decide) dL_meets_5 (As := [.int v1, .int v2]) (st := [.int (0 : Int32), .ref (mB E + 105)]) (ox_X11_meets hC.2.2.2.2.2.2.2.1 hW h) rfl rfl (Nat.le_of_ble_eq_true rfl) (by rw [hE.1]; exact ⟨by decide, by decide⟩) [] [] (0, 10, 13, 18) rfl (fun z hz => by cases hz) (by decide) (by decide) wd_1141 (va_Nw.use rfl hC.2.2.2.1.2.2.2.2.2.2.1) (fun q9 => ?_)
  refine h_astore hC dL_meets_13 rfl (by decide) (lv' := [(4, .ref q9), (0, .ref (mB E + 0)), (1, .int v1), (2, .int v2), (3, .ref (mB E + 105))]) rfl ?_
  refine h_iconst hC dL_meets_15 (v := (1 : Int32)) (by decide) ?_
  exact h_xiret hC hE rfl dL_meets_16 (by decide) (by decide) ⟨rfl, rfl, rfl, rfl, rfl, rfl⟩
def mL_without : mMt := (yL_without, cL_without, 4, some .int, 13, 281)
set_option maxRecDepth 20000 in
theorem ow_without_r {l : Launch} {E : mEn} {Fu : Nat} {I : mIT} {R : mRT} {L : mLT} {v1 : Int32} (hst : l.stackTraces = false) (hW : mWd R) {o : Int32 × mIT} (h : f_X11_without Fu R I v1 = some (.inl o)) : mOw l E mL_without [(0, 9, 12, 18)] [.ref (mB E + 0), .int v1, .ref (mB E + 105)] 106 1 I R L 1 6 (mSame (some (.int 0)) 106 1 (o.2) R (mUL L 105 0 (o.1).toInt64)) := by
  refine mOw_of hst (by decide) (Nat.le_of_ble_eq_true rfl) (fun X hC hE _ => ?_)
  have hC : mD X E mL_without RL cL_without [(0, 9, 12, 18)] := hC
  show mG X E 0 [(0, .ref (mB E + 0)), (1, .int v1), (2, .ref (mB E + 105))] [] 106 1 I R L 0 0
  refine h_aload_n hC dL_without_0 (i := 2) rfl (q := 2) rfl ?_
  refine h_iconst hC dL_without_1 (v := (0 : Int32)) (by decide) ?_
  refine h_aload_n hC dL_without_2 (i := 0) rfl (q := 0) rfl ?_
  refine h_iload_n hC dL_without_3 (i := 1) rfl (q := 1) rfl ?_
  refine h_cV1 hC cv_X11_without wd_1618 ⟨Nat.le_of_ble_eq_true rfl, Nat.le_of_ble_eq_true rfl⟩ rfl (by decide) dL_without_4 (As := [.int v1]) (st := [.int (0 : Int32), .ref (mB E + 105)]) (oi_X11_without hC.2.2.2.2.2.2.2.1 hW h) rfl rfl (Nat.le_of_ble_eq_true rfl) (by rw [hE.1]; exact ⟨by decide, by decide⟩) ?_
  refine h_i2l hC dL_without_7 ?_
  refine h_last hC (len := 1) rfl (by decide) (inB_in (by decide)) dL_without_8 (nm_e ?_)
  refine h_goto hC dL_without_9 (tgt := 15) (by decide) ?_
  refine h_iconst hC dL_without_15 (v := (0 : Int32)) (by decide) ?_
  exact h_xiret hC hE rfl dL_without_16 (by decide) (by decide) ⟨rfl, rfl, rfl, rfl, rfl, rfl⟩
set_option maxRecDepth 20000 in
theorem ow_without_t1 {l : Launch} {E : mEn} {Fu : Nat} {I : mIT} {R : mRT} {L : mLT} {v1 : Int32} (hst : l.stackTraces = false) (hW : mWd R) {I1 : mIT} (h : f_X11_without Fu R I v1 = some (.inr (1, I1))) : mOw l E mL_without [(0, 9, 12, 18)] [.ref (mB E + 0), .int v1, .ref (mB E + 105)] 106 1 I R L 1 6 (mSame (some (.int 1)) 106 1 I1 R L) := by
  refine mOw_of hst (by decide) (Nat.le_of_ble_eq_true rfl) (fun X hC hE _ => ?_)
  have hC : mD X E mL_without RL cL_without [(0, 9, 12, 18)] := hC
  show mG X E 0 [(0, .ref (mB E + 0)), (1, .int v1), (2, .ref (mB E + 105))] [] 106 1 I R L 0 0
  refine h_aload_n hC dL_without_0 (i := 2) rfl (q := 2) rfl ?_
  refine h_iconst hC dL_without_1 (v := (0 : Int32)) (by decide) ?_
  refine h_aload_n hC dL_without_2 (i := 0) rfl (q := 0) rfl ?_
  refine h_iload_n hC dL_without_3 (i := 1) rfl (q := 1) rfl ?_
  refine h_cVc hC cv_X11_without wd_1618 ⟨Nat.le_of_ble_eq_true rfl, Nat.le_of_ble_eq_true rfl⟩ rfl (by decide) dL_without_4 (As := [.int v1]) (st := [.int (0 : Int32), .ref (mB E + 105)]) (ox_X11_without hC.2.2.2.2.2.2.2.1 hW h) rfl rfl (Nat.le_of_ble_eq_true rfl) (by rw [hE.1]; exact ⟨by decide, by decide⟩) [] [] (0, 9, 12, 18) rfl (fun z hz => by cases hz) (by decide) (by decide) wd_1141 (va_Nw.use rfl hC.2.2.2.1.2.2.2.2.2.2.1) (fun q9 => ?_)
  refine h_astore_n hC dL_without_12 rfl rfl (by decide) (lv' := [(3, .ref q9), (0, .ref (mB E + 0)), (1, .int v1), (2, .ref (mB E + 105))]) rfl ?_
  refine h_iconst hC dL_without_13 (v := (1 : Int32)) (by decide) ?_
  exact h_xiret hC hE rfl dL_without_14 (by decide) (by decide) ⟨rfl, rfl, rfl, rfl, rfl, rfl⟩
def mL_often : mMt := (yL_often, cL_often, 4, some .int, 13, 281)
set_option maxRecDepth 20000 in
theorem ow_often_r {l : Launch} {E : mEn} {Fu : Nat} {I : mIT} {R : mRT} {L : mLT} {v1 : Int32} (hst : l.stackTraces = false) (hW : mWd R) {o : Int32 × mIT} (h : f_X11_often Fu R I v1 = some (.inl o)) : mOw l E mL_often [(0, 9, 12, 18)] [.ref (mB E + 0), .int v1, .ref (mB E + 105)] 106 1 I R L 1 6 (mSame (some (.int 0)) 106 1 (o.2) R (mUL L 105 0 (o.1).toInt64)) := by
  refine mOw_of hst (by decide) (Nat.le_of_ble_eq_true rfl) (fun X hC hE _ => ?_)
  have hC : mD X E mL_often RL cL_often [(0, 9, 12, 18)] := hC
  show mG X E 0 [(0, .ref (mB E + 0)), (1, .int v1), (2, .ref (mB E + 105))] [] 106 1 I R L 0 0
  refine h_aload_n hC dL_often_0 (i := 2) rfl (q := 2) rfl ?_
  refine h_iconst hC dL_often_1 (v := (0 : Int32)) (by decide) ?_
  refine h_aload_n hC dL_often_2 (i := 0) rfl (q := 0) rfl ?_
  refine h_iload_n hC dL_often_3 (i := 1) rfl (q := 1) rfl ?_
  refine h_cV1 hC cv_X11_often wd_1625 ⟨Nat.le_of_ble_eq_true rfl, Nat.le_of_ble_eq_true rfl⟩ rfl (by decide) dL_often_4 (As := [.int v1]) (st := [.int (0 : Int32), .ref (mB E + 105)]) (oi_X11_often hC.2.2.2.2.2.2.2.1 hW h) rfl rfl (Nat.le_of_ble_eq_true rfl) (by rw [hE.1]; exact ⟨by decide, by decide⟩) ?_
  refine h_i2l hC dL_often_7 ?_
  refine h_last hC (len := 1) rfl (by decide) (inB_in (by decide)) dL_often_8 (nm_e ?_)
  refine h_goto hC dL_often_9 (tgt := 15) (by decide) ?_
  refine h_iconst hC dL_often_15 (v := (0 : Int32)) (by decide) ?_
  exact h_xiret hC hE rfl dL_often_16 (by decide) (by decide) ⟨rfl, rfl, rfl, rfl, rfl, rfl⟩
set_option maxRecDepth 20000 in
theorem ow_often_t1 {l : Launch} {E : mEn} {Fu : Nat} {I : mIT} {R : mRT} {L : mLT} {v1 : Int32} (hst : l.stackTraces = false) (hW : mWd R) {I1 : mIT} (h : f_X11_often Fu R I v1 = some (.inr (1, I1))) : mOw l E mL_often [(0, 9, 12, 18)] [.ref (mB E + 0), .int v1, .ref (mB E + 105)] 106 1 I R L 1 6 (mSame (some (.int 1)) 106 1 I1 R L) := by
  refine mOw_of hst (by decide) (Nat.le_of_ble_eq_true rfl) (fun X hC hE _ => ?_)
  have hC : mD X E mL_often RL cL_often [(0, 9, 12, 18)] := hC
  show mG X E 0 [(0, .ref (mB E + 0)), (1, .int v1), (2, .ref (mB E + 105))] [] 106 1 I R L 0 0
  refine h_aload_n hC dL_often_0 (i := 2) rfl (q := 2) rfl ?_
  refine h_iconst hC dL_often_1 (v := (0 : Int32)) (by decide) ?_
  refine h_aload_n hC dL_often_2 (i := 0) rfl (q := 0) rfl ?_
  refine h_iload_n hC dL_often_3 (i := 1) rfl (q := 1) rfl ?_
  refine h_cVc hC cv_X11_often wd_1625 ⟨Nat.le_of_ble_eq_true rfl, Nat.le_of_ble_eq_true rfl⟩ rfl (by decide) dL_often_4 (As := [.int v1]) (st := [.int (0 : Int32), .ref (mB E + 105)]) (ox_X11_often hC.2.2.2.2.2.2.2.1 hW h) rfl rfl (Nat.le_of_ble_eq_true rfl) (by rw [hE.1]; exact ⟨by decide, by decide⟩) [] [] (0, 9, 12, 18) rfl (fun z hz => by cases hz) (by decide) (by decide) wd_1141 (va_Nw.use rfl hC.2.2.2.1.2.2.2.2.2.2.1) (fun q9 => ?_)
  refine h_astore_n hC dL_often_12 rfl rfl (by decide) (lv' := [(3, .ref q9), (0, .ref (mB E + 0)), (1, .int v1), (2, .ref (mB E + 105))]) rfl ?_
  refine h_iconst hC dL_often_13 (v := (1 : Int32)) (by decide) ?_
  exact h_xiret hC hE rfl dL_often_14 (by decide) (by decide) ⟨rfl, rfl, rfl, rfl, rfl, rfl⟩
