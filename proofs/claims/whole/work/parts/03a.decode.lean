theorem dX0_init_0 : decode cX0_init 0 = .ok (.aload_n 0, 1) := by decide +kernel
theorem dX0_init_1 : decode cX0_init 1 = .ok (.invokespecial 3, 3) := by decide +kernel
theorem dX0_init_4 : decode cX0_init 4 = .ok (.aload_n 0, 1) := by decide +kernel
theorem dX0_init_5 : decode cX0_init 5 = .ok (.sipush 2120, 3) := by decide +kernel
theorem dX0_init_8 : decode cX0_init 8 = .ok (.newarray .int, 2) := by decide +kernel
theorem dX0_init_10 : decode cX0_init 10 = .ok (.putfield 11, 3) := by decide +kernel
theorem dX0_init_13 : decode cX0_init 13 = .ok (.aload_n 0, 1) := by decide +kernel
theorem dX0_init_14 : decode cX0_init 14 = .ok (.iconst 0, 1) := by decide +kernel
theorem dX0_init_15 : decode cX0_init 15 = .ok (.putfield 17, 3) := by decide +kernel
theorem dX0_init_18 : decode cX0_init 18 = .ok (.aload_n 0, 1) := by decide +kernel
theorem dX0_init_19 : decode cX0_init 19 = .ok (.iconst 0, 1) := by decide +kernel
theorem dX0_init_20 : decode cX0_init 20 = .ok (.putfield 21, 3) := by decide +kernel
theorem dX0_init_23 : decode cX0_init 23 = .ok (.return_, 1) := by decide +kernel
theorem dX0_many_0 : decode cX0_many 0 = .ok (.aload_n 0, 1) := by decide +kernel
theorem dX0_many_1 : decode cX0_many 1 = .ok (.getfield 21, 3) := by decide +kernel
theorem dX0_many_4 : decode cX0_many 4 = .ok (.ireturn, 1) := by decide +kernel
theorem dX0_clear_0 : decode cX0_clear 0 = .ok (.aload_n 0, 1) := by decide +kernel
theorem dX0_clear_1 : decode cX0_clear 1 = .ok (.iconst 0, 1) := by decide +kernel
theorem dX0_clear_2 : decode cX0_clear 2 = .ok (.putfield 17, 3) := by decide +kernel
theorem dX0_clear_5 : decode cX0_clear 5 = .ok (.aload_n 0, 1) := by decide +kernel
theorem dX0_clear_6 : decode cX0_clear 6 = .ok (.iconst 0, 1) := by decide +kernel
theorem dX0_clear_7 : decode cX0_clear 7 = .ok (.putfield 21, 3) := by decide +kernel
theorem dX0_clear_10 : decode cX0_clear 10 = .ok (.return_, 1) := by decide +kernel
theorem dX0_copyFrom_0 : decode cX0_copyFrom 0 = .ok (.aload_n 1, 1) := by decide +kernel
theorem dX0_copyFrom_1 : decode cX0_copyFrom 1 = .ok (.getfield 11, 3) := by decide +kernel
theorem dX0_copyFrom_4 : decode cX0_copyFrom 4 = .ok (.iconst 0, 1) := by decide +kernel
theorem dX0_copyFrom_5 : decode cX0_copyFrom 5 = .ok (.aload_n 0, 1) := by decide +kernel
theorem dX0_copyFrom_6 : decode cX0_copyFrom 6 = .ok (.getfield 11, 3) := by decide +kernel
theorem dX0_copyFrom_9 : decode cX0_copyFrom 9 = .ok (.iconst 0, 1) := by decide +kernel
theorem dX0_copyFrom_10 : decode cX0_copyFrom 10 = .ok (.sipush 2120, 3) := by decide +kernel
theorem dX0_copyFrom_13 : decode cX0_copyFrom 13 = .ok (.invokestatic 24, 3) := by decide +kernel
theorem dX0_copyFrom_16 : decode cX0_copyFrom 16 = .ok (.aload_n 0, 1) := by decide +kernel
theorem dX0_copyFrom_17 : decode cX0_copyFrom 17 = .ok (.aload_n 1, 1) := by decide +kernel
theorem dX0_copyFrom_18 : decode cX0_copyFrom 18 = .ok (.getfield 17, 3) := by decide +kernel
theorem dX0_copyFrom_21 : decode cX0_copyFrom 21 = .ok (.putfield 17, 3) := by decide +kernel
theorem dX0_copyFrom_24 : decode cX0_copyFrom 24 = .ok (.aload_n 0, 1) := by decide +kernel
theorem dX0_copyFrom_25 : decode cX0_copyFrom 25 = .ok (.aload_n 1, 1) := by decide +kernel
theorem dX0_copyFrom_26 : decode cX0_copyFrom 26 = .ok (.getfield 21, 3) := by decide +kernel
theorem dX0_copyFrom_29 : decode cX0_copyFrom 29 = .ok (.putfield 21, 3) := by decide +kernel
theorem dX0_copyFrom_32 : decode cX0_copyFrom 32 = .ok (.return_, 1) := by decide +kernel
theorem dX0_keep_0 : decode cX0_keep 0 = .ok (.aload_n 1, 1) := by decide +kernel
theorem dX0_keep_1 : decode cX0_keep 1 = .ok (.aload_n 0, 1) := by decide +kernel
theorem dX0_keep_2 : decode cX0_keep 2 = .ok (.getfield 11, 3) := by decide +kernel
theorem dX0_keep_5 : decode cX0_keep 5 = .ok (.aload_n 0, 1) := by decide +kernel
theorem dX0_keep_6 : decode cX0_keep 6 = .ok (.getfield 17, 3) := by decide +kernel
theorem dX0_keep_9 : decode cX0_keep 9 = .ok (.aload_n 0, 1) := by decide +kernel
theorem dX0_keep_10 : decode cX0_keep 10 = .ok (.getfield 21, 3) := by decide +kernel
theorem dX0_keep_13 : decode cX0_keep 13 = .ok (.iadd, 1) := by decide +kernel
theorem dX0_keep_14 : decode cX0_keep 14 = .ok (.bipush 40, 2) := by decide +kernel
theorem dX0_keep_16 : decode cX0_keep 16 = .ok (.irem, 1) := by decide +kernel
theorem dX0_keep_17 : decode cX0_keep 17 = .ok (.bipush 53, 2) := by decide +kernel
theorem dX0_keep_19 : decode cX0_keep 19 = .ok (.imul, 1) := by decide +kernel
theorem dX0_keep_20 : decode cX0_keep 20 = .ok (.invokevirtual 30, 3) := by decide +kernel
theorem dX0_keep_23 : decode cX0_keep 23 = .ok (.aload_n 0, 1) := by decide +kernel
theorem dX0_keep_24 : decode cX0_keep 24 = .ok (.getfield 21, 3) := by decide +kernel
theorem dX0_keep_27 : decode cX0_keep 27 = .ok (.bipush 40, 2) := by decide +kernel
theorem dX0_keep_29 : decode cX0_keep 29 = .ok (.if_icmp .ge 16, 3) := by decide +kernel
theorem dX0_keep_32 : decode cX0_keep 32 = .ok (.aload_n 0, 1) := by decide +kernel
theorem dX0_keep_33 : decode cX0_keep 33 = .ok (.dup, 1) := by decide +kernel
theorem dX0_keep_34 : decode cX0_keep 34 = .ok (.getfield 21, 3) := by decide +kernel
theorem dX0_keep_37 : decode cX0_keep 37 = .ok (.iconst 1, 1) := by decide +kernel
theorem dX0_keep_38 : decode cX0_keep 38 = .ok (.iadd, 1) := by decide +kernel
theorem dX0_keep_39 : decode cX0_keep 39 = .ok (.putfield 21, 3) := by decide +kernel
theorem dX0_keep_42 : decode cX0_keep 42 = .ok (.goto 16, 3) := by decide +kernel
theorem dX0_keep_45 : decode cX0_keep 45 = .ok (.aload_n 0, 1) := by decide +kernel
theorem dX0_keep_46 : decode cX0_keep 46 = .ok (.aload_n 0, 1) := by decide +kernel
theorem dX0_keep_47 : decode cX0_keep 47 = .ok (.getfield 17, 3) := by decide +kernel
theorem dX0_keep_50 : decode cX0_keep 50 = .ok (.iconst 1, 1) := by decide +kernel
theorem dX0_keep_51 : decode cX0_keep 51 = .ok (.iadd, 1) := by decide +kernel
theorem dX0_keep_52 : decode cX0_keep 52 = .ok (.bipush 40, 2) := by decide +kernel
theorem dX0_keep_54 : decode cX0_keep 54 = .ok (.irem, 1) := by decide +kernel
theorem dX0_keep_55 : decode cX0_keep 55 = .ok (.putfield 17, 3) := by decide +kernel
theorem dX0_keep_58 : decode cX0_keep 58 = .ok (.return_, 1) := by decide +kernel
theorem dX0_undoInto_0 : decode cX0_undoInto 0 = .ok (.aload_n 0, 1) := by decide +kernel
theorem dX0_undoInto_1 : decode cX0_undoInto 1 = .ok (.getfield 21, 3) := by decide +kernel
theorem dX0_undoInto_4 : decode cX0_undoInto 4 = .ok (.ifCond .gt 5, 3) := by decide +kernel
theorem dX0_undoInto_7 : decode cX0_undoInto 7 = .ok (.iconst 0, 1) := by decide +kernel
theorem dX0_undoInto_8 : decode cX0_undoInto 8 = .ok (.ireturn, 1) := by decide +kernel
theorem dX0_undoInto_9 : decode cX0_undoInto 9 = .ok (.aload_n 0, 1) := by decide +kernel
theorem dX0_undoInto_10 : decode cX0_undoInto 10 = .ok (.dup, 1) := by decide +kernel
theorem dX0_undoInto_11 : decode cX0_undoInto 11 = .ok (.getfield 21, 3) := by decide +kernel
theorem dX0_undoInto_14 : decode cX0_undoInto 14 = .ok (.iconst 1, 1) := by decide +kernel
theorem dX0_undoInto_15 : decode cX0_undoInto 15 = .ok (.isub, 1) := by decide +kernel
theorem dX0_undoInto_16 : decode cX0_undoInto 16 = .ok (.putfield 21, 3) := by decide +kernel
theorem dX0_undoInto_19 : decode cX0_undoInto 19 = .ok (.aload_n 1, 1) := by decide +kernel
theorem dX0_undoInto_20 : decode cX0_undoInto 20 = .ok (.aload_n 0, 1) := by decide +kernel
theorem dX0_undoInto_21 : decode cX0_undoInto 21 = .ok (.getfield 11, 3) := by decide +kernel
theorem dX0_undoInto_24 : decode cX0_undoInto 24 = .ok (.aload_n 0, 1) := by decide +kernel
theorem dX0_undoInto_25 : decode cX0_undoInto 25 = .ok (.getfield 17, 3) := by decide +kernel
theorem dX0_undoInto_28 : decode cX0_undoInto 28 = .ok (.aload_n 0, 1) := by decide +kernel
theorem dX0_undoInto_29 : decode cX0_undoInto 29 = .ok (.getfield 21, 3) := by decide +kernel
theorem dX0_undoInto_32 : decode cX0_undoInto 32 = .ok (.iadd, 1) := by decide +kernel
theorem dX0_undoInto_33 : decode cX0_undoInto 33 = .ok (.bipush 40, 2) := by decide +kernel
theorem dX0_undoInto_35 : decode cX0_undoInto 35 = .ok (.irem, 1) := by decide +kernel
theorem dX0_undoInto_36 : decode cX0_undoInto 36 = .ok (.bipush 53, 2) := by decide +kernel
theorem dX0_undoInto_38 : decode cX0_undoInto 38 = .ok (.imul, 1) := by decide +kernel
theorem dX0_undoInto_39 : decode cX0_undoInto 39 = .ok (.invokevirtual 34, 3) := by decide +kernel
theorem dX0_undoInto_42 : decode cX0_undoInto 42 = .ok (.iconst 1, 1) := by decide +kernel
theorem dX0_undoInto_43 : decode cX0_undoInto 43 = .ok (.ireturn, 1) := by decide +kernel
theorem dX1_init_0 : decode cX1_init 0 = .ok (.aload_n 0, 1) := by decide +kernel
theorem dX1_init_1 : decode cX1_init 1 = .ok (.invokespecial 3, 3) := by decide +kernel
theorem dX1_init_4 : decode cX1_init 4 = .ok (.aload_n 0, 1) := by decide +kernel
theorem dX1_init_5 : decode cX1_init 5 = .ok (.new 9, 3) := by decide +kernel
theorem dX1_init_8 : decode cX1_init 8 = .ok (.dup, 1) := by decide +kernel
theorem dX1_init_9 : decode cX1_init 9 = .ok (.invokespecial 11, 3) := by decide +kernel
theorem dX1_init_12 : decode cX1_init 12 = .ok (.putfield 12, 3) := by decide +kernel
theorem dX1_init_15 : decode cX1_init 15 = .ok (.aload_n 0, 1) := by decide +kernel
theorem dX1_init_16 : decode cX1_init 16 = .ok (.sipush 610, 3) := by decide +kernel
theorem dX1_init_19 : decode cX1_init 19 = .ok (.newarray .int, 2) := by decide +kernel
theorem dX1_init_21 : decode cX1_init 21 = .ok (.putfield 18, 3) := by decide +kernel
theorem dX1_init_24 : decode cX1_init 24 = .ok (.aload_n 0, 1) := by decide +kernel
theorem dX1_init_25 : decode cX1_init 25 = .ok (.bipush 61, 2) := by decide +kernel
theorem dX1_init_27 : decode cX1_init 27 = .ok (.newarray .int, 2) := by decide +kernel
theorem dX1_init_29 : decode cX1_init 29 = .ok (.putfield 22, 3) := by decide +kernel
theorem dX1_init_32 : decode cX1_init 32 = .ok (.aload_n 0, 1) := by decide +kernel
theorem dX1_init_33 : decode cX1_init 33 = .ok (.bipush 61, 2) := by decide +kernel
theorem dX1_init_35 : decode cX1_init 35 = .ok (.newarray .int, 2) := by decide +kernel
theorem dX1_init_37 : decode cX1_init 37 = .ok (.putfield 25, 3) := by decide +kernel
theorem dX1_init_40 : decode cX1_init 40 = .ok (.aload_n 0, 1) := by decide +kernel
theorem dX1_init_41 : decode cX1_init 41 = .ok (.iconst 0, 1) := by decide +kernel
theorem dX1_init_42 : decode cX1_init 42 = .ok (.putfield 28, 3) := by decide +kernel
theorem dX1_init_45 : decode cX1_init 45 = .ok (.return_, 1) := by decide +kernel
theorem dX1_clear_0 : decode cX1_clear 0 = .ok (.aload_n 0, 1) := by decide +kernel
theorem dX1_clear_1 : decode cX1_clear 1 = .ok (.iconst 0, 1) := by decide +kernel
theorem dX1_clear_2 : decode cX1_clear 2 = .ok (.putfield 28, 3) := by decide +kernel
theorem dX1_clear_5 : decode cX1_clear 5 = .ok (.return_, 1) := by decide +kernel
theorem dX1_layTo_0 : decode cX1_layTo 0 = .ok (.aload_n 0, 1) := by decide +kernel
theorem dX1_layTo_1 : decode cX1_layTo 1 = .ok (.getfield 28, 3) := by decide +kernel
theorem dX1_layTo_4 : decode cX1_layTo 4 = .ok (.ifCond .ne 11, 3) := by decide +kernel
theorem dX1_layTo_7 : decode cX1_layTo 7 = .ok (.aload_n 0, 1) := by decide +kernel
theorem dX1_layTo_8 : decode cX1_layTo 8 = .ok (.getfield 12, 3) := by decide +kernel
theorem dX1_layTo_11 : decode cX1_layTo 11 = .ok (.aload_n 2, 1) := by decide +kernel
theorem dX1_layTo_12 : decode cX1_layTo 12 = .ok (.invokevirtual 32, 3) := by decide +kernel
theorem dX1_layTo_15 : decode cX1_layTo 15 = .ok (.aload_n 0, 1) := by decide +kernel
theorem dX1_layTo_16 : decode cX1_layTo 16 = .ok (.getfield 28, 3) := by decide +kernel
theorem dX1_layTo_19 : decode cX1_layTo 19 = .ok (.istore 4, 2) := by decide +kernel
theorem dX1_layTo_21 : decode cX1_layTo 21 = .ok (.iload 4, 2) := by decide +kernel
theorem dX1_layTo_23 : decode cX1_layTo 23 = .ok (.iload_n 3, 1) := by decide +kernel
theorem dX1_layTo_24 : decode cX1_layTo 24 = .ok (.if_icmp .gt 55, 3) := by decide +kernel
theorem dX1_layTo_27 : decode cX1_layTo 27 = .ok (.iload 4, 2) := by decide +kernel
theorem dX1_layTo_29 : decode cX1_layTo 29 = .ok (.bipush 60, 2) := by decide +kernel
theorem dX1_layTo_31 : decode cX1_layTo 31 = .ok (.if_icmp .gt 48, 3) := by decide +kernel
theorem dX1_layTo_34 : decode cX1_layTo 34 = .ok (.iload 4, 2) := by decide +kernel
theorem dX1_layTo_36 : decode cX1_layTo 36 = .ok (.ifCond .le 22, 3) := by decide +kernel
theorem dX1_layTo_39 : decode cX1_layTo 39 = .ok (.aload_n 0, 1) := by decide +kernel
theorem dX1_layTo_40 : decode cX1_layTo 40 = .ok (.getfield 12, 3) := by decide +kernel
theorem dX1_layTo_43 : decode cX1_layTo 43 = .ok (.aload_n 1, 1) := by decide +kernel
theorem dX1_layTo_44 : decode cX1_layTo 44 = .ok (.aload_n 1, 1) := by decide +kernel
theorem dX1_layTo_45 : decode cX1_layTo 45 = .ok (.aload_n 0, 1) := by decide +kernel
theorem dX1_layTo_46 : decode cX1_layTo 46 = .ok (.getfield 12, 3) := by decide +kernel
theorem dX1_layTo_49 : decode cX1_layTo 49 = .ok (.invokevirtual 36, 3) := by decide +kernel
theorem dX1_layTo_52 : decode cX1_layTo 52 = .ok (.invokevirtual 40, 3) := by decide +kernel
theorem dX1_layTo_55 : decode cX1_layTo 55 = .ok (.invokevirtual 46, 3) := by decide +kernel
theorem dX1_layTo_58 : decode cX1_layTo 58 = .ok (.aload_n 0, 1) := by decide +kernel
theorem dX1_layTo_59 : decode cX1_layTo 59 = .ok (.aload_n 1, 1) := by decide +kernel
theorem dX1_layTo_60 : decode cX1_layTo 60 = .ok (.iload 4, 2) := by decide +kernel
theorem dX1_layTo_62 : decode cX1_layTo 62 = .ok (.invokevirtual 50, 3) := by decide +kernel
theorem dX1_layTo_65 : decode cX1_layTo 65 = .ok (.aload_n 0, 1) := by decide +kernel
theorem dX1_layTo_66 : decode cX1_layTo 66 = .ok (.iload 4, 2) := by decide +kernel
theorem dX1_layTo_68 : decode cX1_layTo 68 = .ok (.iconst 1, 1) := by decide +kernel
theorem dX1_layTo_69 : decode cX1_layTo 69 = .ok (.iadd, 1) := by decide +kernel
theorem dX1_layTo_70 : decode cX1_layTo 70 = .ok (.putfield 28, 3) := by decide +kernel
theorem dX1_layTo_73 : decode cX1_layTo 73 = .ok (.iinc 4 1, 3) := by decide +kernel
theorem dX1_layTo_76 : decode cX1_layTo 76 = .ok (.goto (-55), 3) := by decide +kernel
theorem dX1_layTo_79 : decode cX1_layTo 79 = .ok (.return_, 1) := by decide +kernel
theorem dX1_layDay_0 : decode cX1_layDay 0 = .ok (.iload_n 2, 1) := by decide +kernel
theorem dX1_layDay_1 : decode cX1_layDay 1 = .ok (.ifCond .lt 21, 3) := by decide +kernel
theorem dX1_layDay_4 : decode cX1_layDay 4 = .ok (.iload_n 2, 1) := by decide +kernel
theorem dX1_layDay_5 : decode cX1_layDay 5 = .ok (.aload_n 0, 1) := by decide +kernel
theorem dX1_layDay_6 : decode cX1_layDay 6 = .ok (.getfield 22, 3) := by decide +kernel
theorem dX1_layDay_9 : decode cX1_layDay 9 = .ok (.arraylength, 1) := by decide +kernel
theorem dX1_layDay_10 : decode cX1_layDay 10 = .ok (.if_icmp .ge 12, 3) := by decide +kernel
theorem dX1_layDay_13 : decode cX1_layDay 13 = .ok (.iload_n 2, 1) := by decide +kernel
theorem dX1_layDay_14 : decode cX1_layDay 14 = .ok (.aload_n 0, 1) := by decide +kernel
theorem dX1_layDay_15 : decode cX1_layDay 15 = .ok (.getfield 25, 3) := by decide +kernel
theorem dX1_layDay_18 : decode cX1_layDay 18 = .ok (.arraylength, 1) := by decide +kernel
theorem dX1_layDay_19 : decode cX1_layDay 19 = .ok (.if_icmp .lt 4, 3) := by decide +kernel
theorem dX1_layDay_22 : decode cX1_layDay 22 = .ok (.return_, 1) := by decide +kernel
theorem dX1_layDay_23 : decode cX1_layDay 23 = .ok (.iconst 0, 1) := by decide +kernel
theorem dX1_layDay_24 : decode cX1_layDay 24 = .ok (.istore_n 3, 1) := by decide +kernel
theorem dX1_layDay_25 : decode cX1_layDay 25 = .ok (.iconst 0, 1) := by decide +kernel
theorem dX1_layDay_26 : decode cX1_layDay 26 = .ok (.istore 4, 2) := by decide +kernel
theorem dX1_layDay_28 : decode cX1_layDay 28 = .ok (.iconst 0, 1) := by decide +kernel
theorem dX1_layDay_29 : decode cX1_layDay 29 = .ok (.istore 5, 2) := by decide +kernel
theorem dX1_layDay_31 : decode cX1_layDay 31 = .ok (.iload 5, 2) := by decide +kernel
theorem dX1_layDay_33 : decode cX1_layDay 33 = .ok (.aload_n 1, 1) := by decide +kernel
theorem dX1_layDay_34 : decode cX1_layDay 34 = .ok (.getfield 53, 3) := by decide +kernel
theorem dX1_layDay_37 : decode cX1_layDay 37 = .ok (.if_icmp .ge 90, 3) := by decide +kernel
theorem dX1_layDay_40 : decode cX1_layDay 40 = .ok (.aload_n 0, 1) := by decide +kernel
theorem dX1_layDay_41 : decode cX1_layDay 41 = .ok (.getfield 12, 3) := by decide +kernel
theorem dX1_layDay_44 : decode cX1_layDay 44 = .ok (.iload 5, 2) := by decide +kernel
theorem dX1_layDay_46 : decode cX1_layDay 46 = .ok (.invokevirtual 56, 3) := by decide +kernel
theorem dX1_layDay_49 : decode cX1_layDay 49 = .ok (.istore 6, 2) := by decide +kernel
theorem dX1_layDay_51 : decode cX1_layDay 51 = .ok (.iload_n 3, 1) := by decide +kernel
theorem dX1_layDay_52 : decode cX1_layDay 52 = .ok (.iload 6, 2) := by decide +kernel
theorem dX1_layDay_54 : decode cX1_layDay 54 = .ok (.ifCond .lt 10, 3) := by decide +kernel
theorem dX1_layDay_57 : decode cX1_layDay 57 = .ok (.iconst 1, 1) := by decide +kernel
theorem dX1_layDay_58 : decode cX1_layDay 58 = .ok (.iload 5, 2) := by decide +kernel
theorem dX1_layDay_60 : decode cX1_layDay 60 = .ok (.ishl, 1) := by decide +kernel
theorem dX1_layDay_61 : decode cX1_layDay 61 = .ok (.goto 4, 3) := by decide +kernel
theorem dX1_layDay_64 : decode cX1_layDay 64 = .ok (.iconst 0, 1) := by decide +kernel
theorem dX1_layDay_65 : decode cX1_layDay 65 = .ok (.ior, 1) := by decide +kernel
theorem dX1_layDay_66 : decode cX1_layDay 66 = .ok (.istore_n 3, 1) := by decide +kernel
theorem dX1_layDay_67 : decode cX1_layDay 67 = .ok (.iload 4, 2) := by decide +kernel
theorem dX1_layDay_69 : decode cX1_layDay 69 = .ok (.iload 6, 2) := by decide +kernel
theorem dX1_layDay_71 : decode cX1_layDay 71 = .ok (.bipush (-2), 2) := by decide +kernel
theorem dX1_layDay_73 : decode cX1_layDay 73 = .ok (.if_icmp .eq 26, 3) := by decide +kernel
theorem dX1_layDay_76 : decode cX1_layDay 76 = .ok (.aload_n 0, 1) := by decide +kernel
theorem dX1_layDay_77 : decode cX1_layDay 77 = .ok (.getfield 12, 3) := by decide +kernel
theorem dX1_layDay_80 : decode cX1_layDay 80 = .ok (.iload 5, 2) := by decide +kernel
theorem dX1_layDay_82 : decode cX1_layDay 82 = .ok (.invokevirtual 59, 3) := by decide +kernel
theorem dX1_layDay_85 : decode cX1_layDay 85 = .ok (.aload_n 1, 1) := by decide +kernel
theorem dX1_layDay_86 : decode cX1_layDay 86 = .ok (.getfield 62, 3) := by decide +kernel
theorem dX1_layDay_89 : decode cX1_layDay 89 = .ok (.if_icmp .ge 10, 3) := by decide +kernel
theorem dX1_layDay_92 : decode cX1_layDay 92 = .ok (.iconst 1, 1) := by decide +kernel
theorem dX1_layDay_93 : decode cX1_layDay 93 = .ok (.iload 5, 2) := by decide +kernel
theorem dX1_layDay_95 : decode cX1_layDay 95 = .ok (.ishl, 1) := by decide +kernel
theorem dX1_layDay_96 : decode cX1_layDay 96 = .ok (.goto 4, 3) := by decide +kernel
theorem dX1_layDay_99 : decode cX1_layDay 99 = .ok (.iconst 0, 1) := by decide +kernel
theorem dX1_layDay_100 : decode cX1_layDay 100 = .ok (.ior, 1) := by decide +kernel
theorem dX1_layDay_101 : decode cX1_layDay 101 = .ok (.istore 4, 2) := by decide +kernel
theorem dX1_layDay_103 : decode cX1_layDay 103 = .ok (.aload_n 0, 1) := by decide +kernel
theorem dX1_layDay_104 : decode cX1_layDay 104 = .ok (.iload_n 2, 1) := by decide +kernel
theorem dX1_layDay_105 : decode cX1_layDay 105 = .ok (.iload 5, 2) := by decide +kernel
theorem dX1_layDay_107 : decode cX1_layDay 107 = .ok (.aload_n 0, 1) := by decide +kernel
theorem dX1_layDay_108 : decode cX1_layDay 108 = .ok (.getfield 12, 3) := by decide +kernel
theorem dX1_layDay_111 : decode cX1_layDay 111 = .ok (.aload_n 1, 1) := by decide +kernel
theorem dX1_layDay_112 : decode cX1_layDay 112 = .ok (.iload 5, 2) := by decide +kernel
theorem dX1_layDay_114 : decode cX1_layDay 114 = .ok (.iconst 0, 1) := by decide +kernel
theorem dX1_layDay_115 : decode cX1_layDay 115 = .ok (.invokevirtual 65, 3) := by decide +kernel
theorem dX1_layDay_118 : decode cX1_layDay 118 = .ok (.invokevirtual 69, 3) := by decide +kernel
theorem dX1_layDay_121 : decode cX1_layDay 121 = .ok (.iinc 5 1, 3) := by decide +kernel
theorem dX1_layDay_124 : decode cX1_layDay 124 = .ok (.goto (-93), 3) := by decide +kernel
theorem dX1_layDay_127 : decode cX1_layDay 127 = .ok (.aload_n 0, 1) := by decide +kernel
theorem dX1_layDay_128 : decode cX1_layDay 128 = .ok (.getfield 22, 3) := by decide +kernel
theorem dX1_layDay_131 : decode cX1_layDay 131 = .ok (.iload_n 2, 1) := by decide +kernel
theorem dX1_layDay_132 : decode cX1_layDay 132 = .ok (.iload_n 3, 1) := by decide +kernel
theorem dX1_layDay_133 : decode cX1_layDay 133 = .ok (.iload 4, 2) := by decide +kernel
theorem dX1_layDay_135 : decode cX1_layDay 135 = .ok (.iand, 1) := by decide +kernel
theorem dX1_layDay_136 : decode cX1_layDay 136 = .ok (.iastore, 1) := by decide +kernel
theorem dX1_layDay_137 : decode cX1_layDay 137 = .ok (.aload_n 0, 1) := by decide +kernel
theorem dX1_layDay_138 : decode cX1_layDay 138 = .ok (.getfield 25, 3) := by decide +kernel
theorem dX1_layDay_141 : decode cX1_layDay 141 = .ok (.iload_n 2, 1) := by decide +kernel
theorem dX1_layDay_142 : decode cX1_layDay 142 = .ok (.iload 4, 2) := by decide +kernel
theorem dX1_layDay_144 : decode cX1_layDay 144 = .ok (.iastore, 1) := by decide +kernel
theorem dX1_layDay_145 : decode cX1_layDay 145 = .ok (.return_, 1) := by decide +kernel
theorem dX1_setNote_0 : decode cX1_setNote 0 = .ok (.iload_n 1, 1) := by decide +kernel
theorem dX1_setNote_1 : decode cX1_setNote 1 = .ok (.bipush 10, 2) := by decide +kernel
theorem dX1_setNote_3 : decode cX1_setNote 3 = .ok (.imul, 1) := by decide +kernel
theorem dX1_setNote_4 : decode cX1_setNote 4 = .ok (.iload_n 2, 1) := by decide +kernel
theorem dX1_setNote_5 : decode cX1_setNote 5 = .ok (.iadd, 1) := by decide +kernel
theorem dX1_setNote_6 : decode cX1_setNote 6 = .ok (.istore 4, 2) := by decide +kernel
theorem dX1_setNote_8 : decode cX1_setNote 8 = .ok (.iload 4, 2) := by decide +kernel
theorem dX1_setNote_10 : decode cX1_setNote 10 = .ok (.ifCond .lt 21, 3) := by decide +kernel
theorem dX1_setNote_13 : decode cX1_setNote 13 = .ok (.iload 4, 2) := by decide +kernel
theorem dX1_setNote_15 : decode cX1_setNote 15 = .ok (.aload_n 0, 1) := by decide +kernel
theorem dX1_setNote_16 : decode cX1_setNote 16 = .ok (.getfield 18, 3) := by decide +kernel
theorem dX1_setNote_19 : decode cX1_setNote 19 = .ok (.arraylength, 1) := by decide +kernel
theorem dX1_setNote_20 : decode cX1_setNote 20 = .ok (.if_icmp .ge 11, 3) := by decide +kernel
theorem dX1_setNote_23 : decode cX1_setNote 23 = .ok (.aload_n 0, 1) := by decide +kernel
theorem dX1_setNote_24 : decode cX1_setNote 24 = .ok (.getfield 18, 3) := by decide +kernel
theorem dX1_setNote_27 : decode cX1_setNote 27 = .ok (.iload 4, 2) := by decide +kernel
theorem dX1_setNote_29 : decode cX1_setNote 29 = .ok (.iload_n 3, 1) := by decide +kernel
theorem dX1_setNote_30 : decode cX1_setNote 30 = .ok (.iastore, 1) := by decide +kernel
theorem dX1_setNote_31 : decode cX1_setNote 31 = .ok (.return_, 1) := by decide +kernel
theorem dX1_noteOn_0 : decode cX1_noteOn 0 = .ok (.iload_n 1, 1) := by decide +kernel
theorem dX1_noteOn_1 : decode cX1_noteOn 1 = .ok (.bipush 10, 2) := by decide +kernel
theorem dX1_noteOn_3 : decode cX1_noteOn 3 = .ok (.imul, 1) := by decide +kernel
theorem dX1_noteOn_4 : decode cX1_noteOn 4 = .ok (.iload_n 2, 1) := by decide +kernel
theorem dX1_noteOn_5 : decode cX1_noteOn 5 = .ok (.iadd, 1) := by decide +kernel
theorem dX1_noteOn_6 : decode cX1_noteOn 6 = .ok (.istore_n 3, 1) := by decide +kernel
theorem dX1_noteOn_7 : decode cX1_noteOn 7 = .ok (.iload_n 3, 1) := by decide +kernel
theorem dX1_noteOn_8 : decode cX1_noteOn 8 = .ok (.ifCond .lt 21, 3) := by decide +kernel
theorem dX1_noteOn_11 : decode cX1_noteOn 11 = .ok (.iload_n 3, 1) := by decide +kernel
theorem dX1_noteOn_12 : decode cX1_noteOn 12 = .ok (.aload_n 0, 1) := by decide +kernel
theorem dX1_noteOn_13 : decode cX1_noteOn 13 = .ok (.getfield 18, 3) := by decide +kernel
theorem dX1_noteOn_16 : decode cX1_noteOn 16 = .ok (.arraylength, 1) := by decide +kernel
theorem dX1_noteOn_17 : decode cX1_noteOn 17 = .ok (.if_icmp .ge 12, 3) := by decide +kernel
theorem dX1_noteOn_20 : decode cX1_noteOn 20 = .ok (.aload_n 0, 1) := by decide +kernel
theorem dX1_noteOn_21 : decode cX1_noteOn 21 = .ok (.getfield 18, 3) := by decide +kernel
theorem dX1_noteOn_24 : decode cX1_noteOn 24 = .ok (.iload_n 3, 1) := by decide +kernel
theorem dX1_noteOn_25 : decode cX1_noteOn 25 = .ok (.iaload, 1) := by decide +kernel
theorem dX1_noteOn_26 : decode cX1_noteOn 26 = .ok (.goto 4, 3) := by decide +kernel
theorem dX1_noteOn_29 : decode cX1_noteOn 29 = .ok (.iconst 0, 1) := by decide +kernel
theorem dX1_noteOn_30 : decode cX1_noteOn 30 = .ok (.ireturn, 1) := by decide +kernel
theorem dX1_soundingOn_0 : decode cX1_soundingOn 0 = .ok (.iload_n 1, 1) := by decide +kernel
theorem dX1_soundingOn_1 : decode cX1_soundingOn 1 = .ok (.ifCond .lt 21, 3) := by decide +kernel
theorem dX1_soundingOn_4 : decode cX1_soundingOn 4 = .ok (.iload_n 1, 1) := by decide +kernel
theorem dX1_soundingOn_5 : decode cX1_soundingOn 5 = .ok (.aload_n 0, 1) := by decide +kernel
theorem dX1_soundingOn_6 : decode cX1_soundingOn 6 = .ok (.getfield 22, 3) := by decide +kernel
theorem dX1_soundingOn_9 : decode cX1_soundingOn 9 = .ok (.arraylength, 1) := by decide +kernel
theorem dX1_soundingOn_10 : decode cX1_soundingOn 10 = .ok (.if_icmp .ge 12, 3) := by decide +kernel
theorem dX1_soundingOn_13 : decode cX1_soundingOn 13 = .ok (.aload_n 0, 1) := by decide +kernel
theorem dX1_soundingOn_14 : decode cX1_soundingOn 14 = .ok (.getfield 22, 3) := by decide +kernel
theorem dX1_soundingOn_17 : decode cX1_soundingOn 17 = .ok (.iload_n 1, 1) := by decide +kernel
theorem dX1_soundingOn_18 : decode cX1_soundingOn 18 = .ok (.iaload, 1) := by decide +kernel
theorem dX1_soundingOn_19 : decode cX1_soundingOn 19 = .ok (.goto 4, 3) := by decide +kernel
theorem dX1_soundingOn_22 : decode cX1_soundingOn 22 = .ok (.iconst 0, 1) := by decide +kernel
theorem dX1_soundingOn_23 : decode cX1_soundingOn 23 = .ok (.ireturn, 1) := by decide +kernel
theorem dX1_firmOn_0 : decode cX1_firmOn 0 = .ok (.iload_n 1, 1) := by decide +kernel
theorem dX1_firmOn_1 : decode cX1_firmOn 1 = .ok (.ifCond .lt 21, 3) := by decide +kernel
theorem dX1_firmOn_4 : decode cX1_firmOn 4 = .ok (.iload_n 1, 1) := by decide +kernel
theorem dX1_firmOn_5 : decode cX1_firmOn 5 = .ok (.aload_n 0, 1) := by decide +kernel
theorem dX1_firmOn_6 : decode cX1_firmOn 6 = .ok (.getfield 25, 3) := by decide +kernel
theorem dX1_firmOn_9 : decode cX1_firmOn 9 = .ok (.arraylength, 1) := by decide +kernel
theorem dX1_firmOn_10 : decode cX1_firmOn 10 = .ok (.if_icmp .ge 12, 3) := by decide +kernel
theorem dX1_firmOn_13 : decode cX1_firmOn 13 = .ok (.aload_n 0, 1) := by decide +kernel
theorem dX1_firmOn_14 : decode cX1_firmOn 14 = .ok (.getfield 25, 3) := by decide +kernel
theorem dX1_firmOn_17 : decode cX1_firmOn 17 = .ok (.iload_n 1, 1) := by decide +kernel
theorem dX1_firmOn_18 : decode cX1_firmOn 18 = .ok (.iaload, 1) := by decide +kernel
theorem dX1_firmOn_19 : decode cX1_firmOn 19 = .ok (.goto 4, 3) := by decide +kernel
theorem dX1_firmOn_22 : decode cX1_firmOn 22 = .ok (.iconst 0, 1) := by decide +kernel
theorem dX1_firmOn_23 : decode cX1_firmOn 23 = .ok (.ireturn, 1) := by decide +kernel
theorem dX1_noteBits_0 : decode cX1_noteBits 0 = .ok (.iconst 0, 1) := by decide +kernel
theorem dX1_noteBits_1 : decode cX1_noteBits 1 = .ok (.istore_n 3, 1) := by decide +kernel
theorem dX1_noteBits_2 : decode cX1_noteBits 2 = .ok (.iconst 0, 1) := by decide +kernel
theorem dX1_noteBits_3 : decode cX1_noteBits 3 = .ok (.istore 4, 2) := by decide +kernel
theorem dX1_noteBits_5 : decode cX1_noteBits 5 = .ok (.iload 4, 2) := by decide +kernel
theorem dX1_noteBits_7 : decode cX1_noteBits 7 = .ok (.bipush 10, 2) := by decide +kernel
theorem dX1_noteBits_9 : decode cX1_noteBits 9 = .ok (.if_icmp .ge 31, 3) := by decide +kernel
theorem dX1_noteBits_12 : decode cX1_noteBits 12 = .ok (.iload_n 2, 1) := by decide +kernel
theorem dX1_noteBits_13 : decode cX1_noteBits 13 = .ok (.iload 4, 2) := by decide +kernel
theorem dX1_noteBits_15 : decode cX1_noteBits 15 = .ok (.ishr, 1) := by decide +kernel
theorem dX1_noteBits_16 : decode cX1_noteBits 16 = .ok (.iconst 1, 1) := by decide +kernel
theorem dX1_noteBits_17 : decode cX1_noteBits 17 = .ok (.iand, 1) := by decide +kernel
theorem dX1_noteBits_18 : decode cX1_noteBits 18 = .ok (.iconst 1, 1) := by decide +kernel
theorem dX1_noteBits_19 : decode cX1_noteBits 19 = .ok (.if_icmp .ne 15, 3) := by decide +kernel
theorem dX1_noteBits_22 : decode cX1_noteBits 22 = .ok (.iload_n 3, 1) := by decide +kernel
theorem dX1_noteBits_23 : decode cX1_noteBits 23 = .ok (.iconst 1, 1) := by decide +kernel
theorem dX1_noteBits_24 : decode cX1_noteBits 24 = .ok (.aload_n 0, 1) := by decide +kernel
theorem dX1_noteBits_25 : decode cX1_noteBits 25 = .ok (.iload_n 1, 1) := by decide +kernel
theorem dX1_noteBits_26 : decode cX1_noteBits 26 = .ok (.iload 4, 2) := by decide +kernel
theorem dX1_noteBits_28 : decode cX1_noteBits 28 = .ok (.invokevirtual 73, 3) := by decide +kernel
theorem dX1_noteBits_31 : decode cX1_noteBits 31 = .ok (.ishl, 1) := by decide +kernel
theorem dX1_noteBits_32 : decode cX1_noteBits 32 = .ok (.ior, 1) := by decide +kernel
theorem dX1_noteBits_33 : decode cX1_noteBits 33 = .ok (.istore_n 3, 1) := by decide +kernel
theorem dX1_noteBits_34 : decode cX1_noteBits 34 = .ok (.iinc 4 1, 3) := by decide +kernel
theorem dX1_noteBits_37 : decode cX1_noteBits 37 = .ok (.goto (-32), 3) := by decide +kernel
theorem dX1_noteBits_40 : decode cX1_noteBits 40 = .ok (.iload_n 3, 1) := by decide +kernel
theorem dX1_noteBits_41 : decode cX1_noteBits 41 = .ok (.ireturn, 1) := by decide +kernel
theorem dX2_init_0 : decode cX2_init 0 = .ok (.aload_n 0, 1) := by decide +kernel
theorem dX2_init_1 : decode cX2_init 1 = .ok (.invokespecial 3, 3) := by decide +kernel
theorem dX2_init_4 : decode cX2_init 4 = .ok (.aload_n 0, 1) := by decide +kernel
theorem dX2_init_5 : decode cX2_init 5 = .ok (.bipush 80, 2) := by decide +kernel
theorem dX2_init_7 : decode cX2_init 7 = .ok (.newarray .int, 2) := by decide +kernel
theorem dX2_init_9 : decode cX2_init 9 = .ok (.putfield 9, 3) := by decide +kernel
theorem dX2_init_12 : decode cX2_init 12 = .ok (.aload_n 0, 1) := by decide +kernel
theorem dX2_init_13 : decode cX2_init 13 = .ok (.sipush 1024, 3) := by decide +kernel
theorem dX2_init_16 : decode cX2_init 16 = .ok (.newarray .int, 2) := by decide +kernel
theorem dX2_init_18 : decode cX2_init 18 = .ok (.putfield 15, 3) := by decide +kernel
theorem dX2_init_21 : decode cX2_init 21 = .ok (.aload_n 0, 1) := by decide +kernel
theorem dX2_init_22 : decode cX2_init 22 = .ok (.iconst 0, 1) := by decide +kernel
theorem dX2_init_23 : decode cX2_init 23 = .ok (.putfield 18, 3) := by decide +kernel
theorem dX2_init_26 : decode cX2_init 26 = .ok (.aload_n 0, 1) := by decide +kernel
theorem dX2_init_27 : decode cX2_init 27 = .ok (.iconst 0, 1) := by decide +kernel
theorem dX2_init_28 : decode cX2_init 28 = .ok (.putfield 22, 3) := by decide +kernel
theorem dX2_init_31 : decode cX2_init 31 = .ok (.aload_n 0, 1) := by decide +kernel
theorem dX2_init_32 : decode cX2_init 32 = .ok (.iconst 0, 1) := by decide +kernel
theorem dX2_init_33 : decode cX2_init 33 = .ok (.putfield 25, 3) := by decide +kernel
theorem dX2_init_36 : decode cX2_init 36 = .ok (.return_, 1) := by decide +kernel
theorem dX2_clear_0 : decode cX2_clear 0 = .ok (.aload_n 0, 1) := by decide +kernel
theorem dX2_clear_1 : decode cX2_clear 1 = .ok (.iconst 0, 1) := by decide +kernel
theorem dX2_clear_2 : decode cX2_clear 2 = .ok (.putfield 25, 3) := by decide +kernel
theorem dX2_clear_5 : decode cX2_clear 5 = .ok (.return_, 1) := by decide +kernel
theorem dX2_workOut_0 : decode cX2_workOut 0 = .ok (.aload_n 0, 1) := by decide +kernel
theorem dX2_workOut_1 : decode cX2_workOut 1 = .ok (.getfield 25, 3) := by decide +kernel
theorem dX2_workOut_4 : decode cX2_workOut 4 = .ok (.ifCond .eq 4, 3) := by decide +kernel
theorem dX2_workOut_7 : decode cX2_workOut 7 = .ok (.return_, 1) := by decide +kernel
theorem dX2_workOut_8 : decode cX2_workOut 8 = .ok (.aload_n 0, 1) := by decide +kernel
theorem dX2_workOut_9 : decode cX2_workOut 9 = .ok (.iconst 1, 1) := by decide +kernel
theorem dX2_workOut_10 : decode cX2_workOut 10 = .ok (.putfield 25, 3) := by decide +kernel
theorem dX2_workOut_13 : decode cX2_workOut 13 = .ok (.aload_n 0, 1) := by decide +kernel
theorem dX2_workOut_14 : decode cX2_workOut 14 = .ok (.aload_n 1, 1) := by decide +kernel
theorem dX2_workOut_15 : decode cX2_workOut 15 = .ok (.getfield 29, 3) := by decide +kernel
theorem dX2_workOut_18 : decode cX2_workOut 18 = .ok (.putfield 18, 3) := by decide +kernel
theorem dX2_workOut_21 : decode cX2_workOut 21 = .ok (.aload_n 0, 1) := by decide +kernel
theorem dX2_workOut_22 : decode cX2_workOut 22 = .ok (.aload_n 1, 1) := by decide +kernel
theorem dX2_workOut_23 : decode cX2_workOut 23 = .ok (.getfield 34, 3) := by decide +kernel
theorem dX2_workOut_26 : decode cX2_workOut 26 = .ok (.putfield 22, 3) := by decide +kernel
theorem dX2_workOut_29 : decode cX2_workOut 29 = .ok (.iconst 0, 1) := by decide +kernel
theorem dX2_workOut_30 : decode cX2_workOut 30 = .ok (.istore_n 3, 1) := by decide +kernel
theorem dX2_workOut_31 : decode cX2_workOut 31 = .ok (.iload_n 3, 1) := by decide +kernel
theorem dX2_workOut_32 : decode cX2_workOut 32 = .ok (.aload_n 0, 1) := by decide +kernel
theorem dX2_workOut_33 : decode cX2_workOut 33 = .ok (.getfield 9, 3) := by decide +kernel
theorem dX2_workOut_36 : decode cX2_workOut 36 = .ok (.arraylength, 1) := by decide +kernel
theorem dX2_workOut_37 : decode cX2_workOut 37 = .ok (.if_icmp .ge 17, 3) := by decide +kernel
theorem dX2_workOut_40 : decode cX2_workOut 40 = .ok (.aload_n 0, 1) := by decide +kernel
theorem dX2_workOut_41 : decode cX2_workOut 41 = .ok (.getfield 9, 3) := by decide +kernel
theorem dX2_workOut_44 : decode cX2_workOut 44 = .ok (.iload_n 3, 1) := by decide +kernel
theorem dX2_workOut_45 : decode cX2_workOut 45 = .ok (.ldc 35, 2) := by decide +kernel
theorem dX2_workOut_47 : decode cX2_workOut 47 = .ok (.iastore, 1) := by decide +kernel
theorem dX2_workOut_48 : decode cX2_workOut 48 = .ok (.iinc 3 1, 3) := by decide +kernel
theorem dX2_workOut_51 : decode cX2_workOut 51 = .ok (.goto (-20), 3) := by decide +kernel
theorem dX2_workOut_54 : decode cX2_workOut 54 = .ok (.iconst 0, 1) := by decide +kernel
theorem dX2_workOut_55 : decode cX2_workOut 55 = .ok (.istore_n 3, 1) := by decide +kernel
theorem dX2_workOut_56 : decode cX2_workOut 56 = .ok (.iload_n 3, 1) := by decide +kernel
theorem dX2_workOut_57 : decode cX2_workOut 57 = .ok (.aload_n 0, 1) := by decide +kernel
theorem dX2_workOut_58 : decode cX2_workOut 58 = .ok (.getfield 22, 3) := by decide +kernel
theorem dX2_workOut_61 : decode cX2_workOut 61 = .ok (.if_icmp .ge 26, 3) := by decide +kernel
theorem dX2_workOut_64 : decode cX2_workOut 64 = .ok (.aload_n 2, 1) := by decide +kernel
theorem dX2_workOut_65 : decode cX2_workOut 65 = .ok (.iload_n 3, 1) := by decide +kernel
theorem dX2_workOut_66 : decode cX2_workOut 66 = .ok (.invokevirtual 36, 3) := by decide +kernel
theorem dX2_workOut_69 : decode cX2_workOut 69 = .ok (.bipush (-2), 2) := by decide +kernel
theorem dX2_workOut_71 : decode cX2_workOut 71 = .ok (.if_icmp .eq 10, 3) := by decide +kernel
theorem dX2_workOut_74 : decode cX2_workOut 74 = .ok (.aload_n 0, 1) := by decide +kernel
theorem dX2_workOut_75 : decode cX2_workOut 75 = .ok (.aload_n 1, 1) := by decide +kernel
theorem dX2_workOut_76 : decode cX2_workOut 76 = .ok (.aload_n 2, 1) := by decide +kernel
theorem dX2_workOut_77 : decode cX2_workOut 77 = .ok (.iload_n 3, 1) := by decide +kernel
theorem dX2_workOut_78 : decode cX2_workOut 78 = .ok (.invokevirtual 42, 3) := by decide +kernel
theorem dX2_workOut_81 : decode cX2_workOut 81 = .ok (.iinc 3 1, 3) := by decide +kernel
theorem dX2_workOut_84 : decode cX2_workOut 84 = .ok (.goto (-28), 3) := by decide +kernel
theorem dX2_workOut_87 : decode cX2_workOut 87 = .ok (.iconst 1, 1) := by decide +kernel
theorem dX2_workOut_88 : decode cX2_workOut 88 = .ok (.aload_n 0, 1) := by decide +kernel
theorem dX2_workOut_89 : decode cX2_workOut 89 = .ok (.getfield 22, 3) := by decide +kernel
theorem dX2_workOut_92 : decode cX2_workOut 92 = .ok (.ishl, 1) := by decide +kernel
theorem dX2_workOut_93 : decode cX2_workOut 93 = .ok (.iconst 1, 1) := by decide +kernel
theorem dX2_workOut_94 : decode cX2_workOut 94 = .ok (.isub, 1) := by decide +kernel
theorem dX2_workOut_95 : decode cX2_workOut 95 = .ok (.istore_n 3, 1) := by decide +kernel
theorem dX2_workOut_96 : decode cX2_workOut 96 = .ok (.iload_n 3, 1) := by decide +kernel
theorem dX2_workOut_97 : decode cX2_workOut 97 = .ok (.ifCond .lt 29, 3) := by decide +kernel
theorem dX2_workOut_100 : decode cX2_workOut 100 = .ok (.iload_n 3, 1) := by decide +kernel
theorem dX2_workOut_101 : decode cX2_workOut 101 = .ok (.aload_n 0, 1) := by decide +kernel
theorem dX2_workOut_102 : decode cX2_workOut 102 = .ok (.getfield 15, 3) := by decide +kernel
theorem dX2_workOut_105 : decode cX2_workOut 105 = .ok (.arraylength, 1) := by decide +kernel
theorem dX2_workOut_106 : decode cX2_workOut 106 = .ok (.if_icmp .ge 14, 3) := by decide +kernel
theorem dX2_workOut_109 : decode cX2_workOut 109 = .ok (.aload_n 0, 1) := by decide +kernel
theorem dX2_workOut_110 : decode cX2_workOut 110 = .ok (.getfield 15, 3) := by decide +kernel
theorem dX2_workOut_113 : decode cX2_workOut 113 = .ok (.iload_n 3, 1) := by decide +kernel
theorem dX2_workOut_114 : decode cX2_workOut 114 = .ok (.aload_n 0, 1) := by decide +kernel
theorem dX2_workOut_115 : decode cX2_workOut 115 = .ok (.iload_n 3, 1) := by decide +kernel
theorem dX2_workOut_116 : decode cX2_workOut 116 = .ok (.invokevirtual 46, 3) := by decide +kernel
theorem dX2_workOut_119 : decode cX2_workOut 119 = .ok (.iastore, 1) := by decide +kernel
theorem dX2_workOut_120 : decode cX2_workOut 120 = .ok (.iinc 3 (-1), 3) := by decide +kernel
theorem dX2_workOut_123 : decode cX2_workOut 123 = .ok (.goto (-27), 3) := by decide +kernel
theorem dX2_workOut_126 : decode cX2_workOut 126 = .ok (.return_, 1) := by decide +kernel
theorem dX2_findNeeds_0 : decode cX2_findNeeds 0 = .ok (.aload_n 2, 1) := by decide +kernel
theorem dX2_findNeeds_1 : decode cX2_findNeeds 1 = .ok (.iload_n 3, 1) := by decide +kernel
theorem dX2_findNeeds_2 : decode cX2_findNeeds 2 = .ok (.invokevirtual 49, 3) := by decide +kernel
theorem dX2_findNeeds_5 : decode cX2_findNeeds 5 = .ok (.istore 4, 2) := by decide +kernel
theorem dX2_findNeeds_7 : decode cX2_findNeeds 7 = .ok (.iload 4, 2) := by decide +kernel
theorem dX2_findNeeds_9 : decode cX2_findNeeds 9 = .ok (.ifCond .lt 81, 3) := by decide +kernel
theorem dX2_findNeeds_12 : decode cX2_findNeeds 12 = .ok (.aload_n 2, 1) := by decide +kernel
theorem dX2_findNeeds_13 : decode cX2_findNeeds 13 = .ok (.aload_n 1, 1) := by decide +kernel
theorem dX2_findNeeds_14 : decode cX2_findNeeds 14 = .ok (.iload_n 3, 1) := by decide +kernel
theorem dX2_findNeeds_15 : decode cX2_findNeeds 15 = .ok (.iload 4, 2) := by decide +kernel
theorem dX2_findNeeds_17 : decode cX2_findNeeds 17 = .ok (.invokevirtual 52, 3) := by decide +kernel
theorem dX2_findNeeds_20 : decode cX2_findNeeds 20 = .ok (.istore 5, 2) := by decide +kernel
theorem dX2_findNeeds_22 : decode cX2_findNeeds 22 = .ok (.iconst 0, 1) := by decide +kernel
theorem dX2_findNeeds_23 : decode cX2_findNeeds 23 = .ok (.istore 6, 2) := by decide +kernel
theorem dX2_findNeeds_25 : decode cX2_findNeeds 25 = .ok (.iload 6, 2) := by decide +kernel
theorem dX2_findNeeds_27 : decode cX2_findNeeds 27 = .ok (.aload_n 0, 1) := by decide +kernel
theorem dX2_findNeeds_28 : decode cX2_findNeeds 28 = .ok (.getfield 18, 3) := by decide +kernel
theorem dX2_findNeeds_31 : decode cX2_findNeeds 31 = .ok (.if_icmp .ge 53, 3) := by decide +kernel
theorem dX2_findNeeds_34 : decode cX2_findNeeds 34 = .ok (.iload 6, 2) := by decide +kernel
theorem dX2_findNeeds_36 : decode cX2_findNeeds 36 = .ok (.bipush 10, 2) := by decide +kernel
theorem dX2_findNeeds_38 : decode cX2_findNeeds 38 = .ok (.imul, 1) := by decide +kernel
theorem dX2_findNeeds_39 : decode cX2_findNeeds 39 = .ok (.iload_n 3, 1) := by decide +kernel
theorem dX2_findNeeds_40 : decode cX2_findNeeds 40 = .ok (.iadd, 1) := by decide +kernel
theorem dX2_findNeeds_41 : decode cX2_findNeeds 41 = .ok (.istore 7, 2) := by decide +kernel
theorem dX2_findNeeds_43 : decode cX2_findNeeds 43 = .ok (.aload_n 1, 1) := by decide +kernel
theorem dX2_findNeeds_44 : decode cX2_findNeeds 44 = .ok (.iload 6, 2) := by decide +kernel
theorem dX2_findNeeds_46 : decode cX2_findNeeds 46 = .ok (.invokevirtual 56, 3) := by decide +kernel
theorem dX2_findNeeds_49 : decode cX2_findNeeds 49 = .ok (.iload 5, 2) := by decide +kernel
theorem dX2_findNeeds_51 : decode cX2_findNeeds 51 = .ok (.if_icmp .ne 27, 3) := by decide +kernel
theorem dX2_findNeeds_54 : decode cX2_findNeeds 54 = .ok (.iload 7, 2) := by decide +kernel
theorem dX2_findNeeds_56 : decode cX2_findNeeds 56 = .ok (.ifCond .lt 22, 3) := by decide +kernel
theorem dX2_findNeeds_59 : decode cX2_findNeeds 59 = .ok (.iload 7, 2) := by decide +kernel
theorem dX2_findNeeds_61 : decode cX2_findNeeds 61 = .ok (.aload_n 0, 1) := by decide +kernel
theorem dX2_findNeeds_62 : decode cX2_findNeeds 62 = .ok (.getfield 9, 3) := by decide +kernel
theorem dX2_findNeeds_65 : decode cX2_findNeeds 65 = .ok (.arraylength, 1) := by decide +kernel
theorem dX2_findNeeds_66 : decode cX2_findNeeds 66 = .ok (.if_icmp .ge 12, 3) := by decide +kernel
theorem dX2_findNeeds_69 : decode cX2_findNeeds 69 = .ok (.aload_n 0, 1) := by decide +kernel
theorem dX2_findNeeds_70 : decode cX2_findNeeds 70 = .ok (.getfield 9, 3) := by decide +kernel
theorem dX2_findNeeds_73 : decode cX2_findNeeds 73 = .ok (.iload 7, 2) := by decide +kernel
theorem dX2_findNeeds_75 : decode cX2_findNeeds 75 = .ok (.iload 4, 2) := by decide +kernel
theorem dX2_findNeeds_77 : decode cX2_findNeeds 77 = .ok (.iastore, 1) := by decide +kernel
theorem dX2_findNeeds_78 : decode cX2_findNeeds 78 = .ok (.iinc 6 1, 3) := by decide +kernel
theorem dX2_findNeeds_81 : decode cX2_findNeeds 81 = .ok (.goto (-56), 3) := by decide +kernel
theorem dX2_findNeeds_84 : decode cX2_findNeeds 84 = .ok (.iinc 4 (-1), 3) := by decide +kernel
theorem dX2_findNeeds_87 : decode cX2_findNeeds 87 = .ok (.goto (-80), 3) := by decide +kernel
theorem dX2_findNeeds_90 : decode cX2_findNeeds 90 = .ok (.return_, 1) := by decide +kernel
theorem dX2_leastBehind_0 : decode cX2_leastBehind 0 = .ok (.iload_n 1, 1) := by decide +kernel
theorem dX2_leastBehind_1 : decode cX2_leastBehind 1 = .ok (.invokestatic 59, 3) := by decide +kernel
theorem dX2_leastBehind_4 : decode cX2_leastBehind 4 = .ok (.istore_n 2, 1) := by decide +kernel
theorem dX2_leastBehind_5 : decode cX2_leastBehind 5 = .ok (.iload_n 2, 1) := by decide +kernel
theorem dX2_leastBehind_6 : decode cX2_leastBehind 6 = .ok (.aload_n 0, 1) := by decide +kernel
theorem dX2_leastBehind_7 : decode cX2_leastBehind 7 = .ok (.getfield 18, 3) := by decide +kernel
theorem dX2_leastBehind_10 : decode cX2_leastBehind 10 = .ok (.if_icmp .lt 18, 3) := by decide +kernel
theorem dX2_leastBehind_13 : decode cX2_leastBehind 13 = .ok (.iload_n 2, 1) := by decide +kernel
theorem dX2_leastBehind_14 : decode cX2_leastBehind 14 = .ok (.aload_n 0, 1) := by decide +kernel
theorem dX2_leastBehind_15 : decode cX2_leastBehind 15 = .ok (.getfield 18, 3) := by decide +kernel
theorem dX2_leastBehind_18 : decode cX2_leastBehind 18 = .ok (.if_icmp .ne 7, 3) := by decide +kernel
theorem dX2_leastBehind_21 : decode cX2_leastBehind 21 = .ok (.iconst 0, 1) := by decide +kernel
theorem dX2_leastBehind_22 : decode cX2_leastBehind 22 = .ok (.goto 5, 3) := by decide +kernel
theorem dX2_leastBehind_25 : decode cX2_leastBehind 25 = .ok (.ldc 35, 2) := by decide +kernel
theorem dX2_leastBehind_27 : decode cX2_leastBehind 27 = .ok (.ireturn, 1) := by decide +kernel
theorem dX2_leastBehind_28 : decode cX2_leastBehind 28 = .ok (.ldc 35, 2) := by decide +kernel
theorem dX2_leastBehind_30 : decode cX2_leastBehind 30 = .ok (.istore_n 3, 1) := by decide +kernel
theorem dX2_leastBehind_31 : decode cX2_leastBehind 31 = .ok (.iconst 0, 1) := by decide +kernel
theorem dX2_leastBehind_32 : decode cX2_leastBehind 32 = .ok (.istore 4, 2) := by decide +kernel
theorem dX2_leastBehind_34 : decode cX2_leastBehind 34 = .ok (.iload 4, 2) := by decide +kernel
theorem dX2_leastBehind_36 : decode cX2_leastBehind 36 = .ok (.aload_n 0, 1) := by decide +kernel
theorem dX2_leastBehind_37 : decode cX2_leastBehind 37 = .ok (.getfield 22, 3) := by decide +kernel
theorem dX2_leastBehind_40 : decode cX2_leastBehind 40 = .ok (.if_icmp .ge 22, 3) := by decide +kernel
theorem dX2_leastBehind_43 : decode cX2_leastBehind 43 = .ok (.iload_n 3, 1) := by decide +kernel
theorem dX2_leastBehind_44 : decode cX2_leastBehind 44 = .ok (.aload_n 0, 1) := by decide +kernel
theorem dX2_leastBehind_45 : decode cX2_leastBehind 45 = .ok (.iload_n 2, 1) := by decide +kernel
theorem dX2_leastBehind_46 : decode cX2_leastBehind 46 = .ok (.iload 4, 2) := by decide +kernel
theorem dX2_leastBehind_48 : decode cX2_leastBehind 48 = .ok (.iload_n 1, 1) := by decide +kernel
theorem dX2_leastBehind_49 : decode cX2_leastBehind 49 = .ok (.invokevirtual 64, 3) := by decide +kernel
theorem dX2_leastBehind_52 : decode cX2_leastBehind 52 = .ok (.invokestatic 68, 3) := by decide +kernel
theorem dX2_leastBehind_55 : decode cX2_leastBehind 55 = .ok (.istore_n 3, 1) := by decide +kernel
theorem dX2_leastBehind_56 : decode cX2_leastBehind 56 = .ok (.iinc 4 1, 3) := by decide +kernel
theorem dX2_leastBehind_59 : decode cX2_leastBehind 59 = .ok (.goto (-25), 3) := by decide +kernel
theorem dX2_leastBehind_62 : decode cX2_leastBehind 62 = .ok (.iload_n 3, 1) := by decide +kernel
theorem dX2_leastBehind_63 : decode cX2_leastBehind 63 = .ok (.ireturn, 1) := by decide +kernel
theorem dX2_leastBy_0 : decode cX2_leastBy 0 = .ok (.iload_n 1, 1) := by decide +kernel
theorem dX2_leastBy_1 : decode cX2_leastBy 1 = .ok (.bipush 10, 2) := by decide +kernel
theorem dX2_leastBy_3 : decode cX2_leastBy 3 = .ok (.imul, 1) := by decide +kernel
theorem dX2_leastBy_4 : decode cX2_leastBy 4 = .ok (.iload_n 2, 1) := by decide +kernel
theorem dX2_leastBy_5 : decode cX2_leastBy 5 = .ok (.iadd, 1) := by decide +kernel
theorem dX2_leastBy_6 : decode cX2_leastBy 6 = .ok (.istore 4, 2) := by decide +kernel
theorem dX2_leastBy_8 : decode cX2_leastBy 8 = .ok (.iload_n 3, 1) := by decide +kernel
theorem dX2_leastBy_9 : decode cX2_leastBy 9 = .ok (.iconst 1, 1) := by decide +kernel
theorem dX2_leastBy_10 : decode cX2_leastBy 10 = .ok (.iload_n 2, 1) := by decide +kernel
theorem dX2_leastBy_11 : decode cX2_leastBy 11 = .ok (.ishl, 1) := by decide +kernel
theorem dX2_leastBy_12 : decode cX2_leastBy 12 = .ok (.ior, 1) := by decide +kernel
theorem dX2_leastBy_13 : decode cX2_leastBy 13 = .ok (.istore 5, 2) := by decide +kernel
theorem dX2_leastBy_15 : decode cX2_leastBy 15 = .ok (.iload 5, 2) := by decide +kernel
theorem dX2_leastBy_17 : decode cX2_leastBy 17 = .ok (.iload_n 3, 1) := by decide +kernel
theorem dX2_leastBy_18 : decode cX2_leastBy 18 = .ok (.if_icmp .eq 33, 3) := by decide +kernel
theorem dX2_leastBy_21 : decode cX2_leastBy 21 = .ok (.iload 4, 2) := by decide +kernel
theorem dX2_leastBy_23 : decode cX2_leastBy 23 = .ok (.ifCond .lt 28, 3) := by decide +kernel
theorem dX2_leastBy_26 : decode cX2_leastBy 26 = .ok (.iload 4, 2) := by decide +kernel
theorem dX2_leastBy_28 : decode cX2_leastBy 28 = .ok (.aload_n 0, 1) := by decide +kernel
theorem dX2_leastBy_29 : decode cX2_leastBy 29 = .ok (.getfield 9, 3) := by decide +kernel
theorem dX2_leastBy_32 : decode cX2_leastBy 32 = .ok (.arraylength, 1) := by decide +kernel
theorem dX2_leastBy_33 : decode cX2_leastBy 33 = .ok (.if_icmp .ge 18, 3) := by decide +kernel
theorem dX2_leastBy_36 : decode cX2_leastBy 36 = .ok (.iload 5, 2) := by decide +kernel
theorem dX2_leastBy_38 : decode cX2_leastBy 38 = .ok (.ifCond .lt 13, 3) := by decide +kernel
theorem dX2_leastBy_41 : decode cX2_leastBy 41 = .ok (.iload 5, 2) := by decide +kernel
theorem dX2_leastBy_43 : decode cX2_leastBy 43 = .ok (.aload_n 0, 1) := by decide +kernel
theorem dX2_leastBy_44 : decode cX2_leastBy 44 = .ok (.getfield 15, 3) := by decide +kernel
theorem dX2_leastBy_47 : decode cX2_leastBy 47 = .ok (.arraylength, 1) := by decide +kernel
theorem dX2_leastBy_48 : decode cX2_leastBy 48 = .ok (.if_icmp .lt 6, 3) := by decide +kernel
theorem dX2_leastBy_51 : decode cX2_leastBy 51 = .ok (.ldc 35, 2) := by decide +kernel
theorem dX2_leastBy_53 : decode cX2_leastBy 53 = .ok (.ireturn, 1) := by decide +kernel
theorem dX2_leastBy_54 : decode cX2_leastBy 54 = .ok (.ldc 35, 2) := by decide +kernel
theorem dX2_leastBy_56 : decode cX2_leastBy 56 = .ok (.aload_n 0, 1) := by decide +kernel
theorem dX2_leastBy_57 : decode cX2_leastBy 57 = .ok (.getfield 9, 3) := by decide +kernel
theorem dX2_leastBy_60 : decode cX2_leastBy 60 = .ok (.iload 4, 2) := by decide +kernel
theorem dX2_leastBy_62 : decode cX2_leastBy 62 = .ok (.iaload, 1) := by decide +kernel
theorem dX2_leastBy_63 : decode cX2_leastBy 63 = .ok (.aload_n 0, 1) := by decide +kernel
theorem dX2_leastBy_64 : decode cX2_leastBy 64 = .ok (.getfield 15, 3) := by decide +kernel
theorem dX2_leastBy_67 : decode cX2_leastBy 67 = .ok (.iload 5, 2) := by decide +kernel
theorem dX2_leastBy_69 : decode cX2_leastBy 69 = .ok (.iaload, 1) := by decide +kernel
theorem dX2_leastBy_70 : decode cX2_leastBy 70 = .ok (.iadd, 1) := by decide +kernel
theorem dX2_leastBy_71 : decode cX2_leastBy 71 = .ok (.invokestatic 68, 3) := by decide +kernel
theorem dX2_leastBy_74 : decode cX2_leastBy 74 = .ok (.ireturn, 1) := by decide +kernel
theorem dX2_total_0 : decode cX2_total 0 = .ok (.aload_n 0, 1) := by decide +kernel
theorem dX2_total_1 : decode cX2_total 1 = .ok (.getfield 15, 3) := by decide +kernel
theorem dX2_total_4 : decode cX2_total 4 = .ok (.iconst 0, 1) := by decide +kernel
theorem dX2_total_5 : decode cX2_total 5 = .ok (.iaload, 1) := by decide +kernel
theorem dX2_total_6 : decode cX2_total 6 = .ok (.ldc 35, 2) := by decide +kernel
theorem dX2_total_8 : decode cX2_total 8 = .ok (.if_icmp .lt 8, 3) := by decide +kernel
theorem dX2_total_11 : decode cX2_total 11 = .ok (.bipush (-2), 2) := by decide +kernel
theorem dX2_total_13 : decode cX2_total 13 = .ok (.goto 9, 3) := by decide +kernel
theorem dX2_total_16 : decode cX2_total 16 = .ok (.aload_n 0, 1) := by decide +kernel
theorem dX2_total_17 : decode cX2_total 17 = .ok (.getfield 15, 3) := by decide +kernel
theorem dX2_total_20 : decode cX2_total 20 = .ok (.iconst 0, 1) := by decide +kernel
theorem dX2_total_21 : decode cX2_total 21 = .ok (.iaload, 1) := by decide +kernel
theorem dX2_total_22 : decode cX2_total 22 = .ok (.ireturn, 1) := by decide +kernel
theorem dX2_rootFor_0 : decode cX2_rootFor 0 = .ok (.aload_n 0, 1) := by decide +kernel
theorem dX2_rootFor_1 : decode cX2_rootFor 1 = .ok (.getfield 15, 3) := by decide +kernel
theorem dX2_rootFor_4 : decode cX2_rootFor 4 = .ok (.iconst 0, 1) := by decide +kernel
theorem dX2_rootFor_5 : decode cX2_rootFor 5 = .ok (.iaload, 1) := by decide +kernel
theorem dX2_rootFor_6 : decode cX2_rootFor 6 = .ok (.ldc 35, 2) := by decide +kernel
theorem dX2_rootFor_8 : decode cX2_rootFor 8 = .ok (.if_icmp .lt 6, 3) := by decide +kernel
theorem dX2_rootFor_11 : decode cX2_rootFor 11 = .ok (.bipush (-2), 2) := by decide +kernel
theorem dX2_rootFor_13 : decode cX2_rootFor 13 = .ok (.ireturn, 1) := by decide +kernel
theorem dX2_rootFor_14 : decode cX2_rootFor 14 = .ok (.iconst 0, 1) := by decide +kernel
theorem dX2_rootFor_15 : decode cX2_rootFor 15 = .ok (.istore_n 2, 1) := by decide +kernel
theorem dX2_rootFor_16 : decode cX2_rootFor 16 = .ok (.bipush (-2), 2) := by decide +kernel
theorem dX2_rootFor_18 : decode cX2_rootFor 18 = .ok (.istore_n 3, 1) := by decide +kernel
theorem dX2_rootFor_19 : decode cX2_rootFor 19 = .ok (.iconst 0, 1) := by decide +kernel
theorem dX2_rootFor_20 : decode cX2_rootFor 20 = .ok (.istore 4, 2) := by decide +kernel
theorem dX2_rootFor_22 : decode cX2_rootFor 22 = .ok (.iload 4, 2) := by decide +kernel
theorem dX2_rootFor_24 : decode cX2_rootFor 24 = .ok (.iload_n 1, 1) := by decide +kernel
theorem dX2_rootFor_25 : decode cX2_rootFor 25 = .ok (.if_icmp .gt 31, 3) := by decide +kernel
theorem dX2_rootFor_28 : decode cX2_rootFor 28 = .ok (.aload_n 0, 1) := by decide +kernel
theorem dX2_rootFor_29 : decode cX2_rootFor 29 = .ok (.iload 4, 2) := by decide +kernel
theorem dX2_rootFor_31 : decode cX2_rootFor 31 = .ok (.iload_n 2, 1) := by decide +kernel
theorem dX2_rootFor_32 : decode cX2_rootFor 32 = .ok (.invokevirtual 74, 3) := by decide +kernel
theorem dX2_rootFor_35 : decode cX2_rootFor 35 = .ok (.istore_n 3, 1) := by decide +kernel
theorem dX2_rootFor_36 : decode cX2_rootFor 36 = .ok (.iload_n 2, 1) := by decide +kernel
theorem dX2_rootFor_37 : decode cX2_rootFor 37 = .ok (.iload_n 3, 1) := by decide +kernel
theorem dX2_rootFor_38 : decode cX2_rootFor 38 = .ok (.ifCond .lt 9, 3) := by decide +kernel
theorem dX2_rootFor_41 : decode cX2_rootFor 41 = .ok (.iconst 1, 1) := by decide +kernel
theorem dX2_rootFor_42 : decode cX2_rootFor 42 = .ok (.iload_n 3, 1) := by decide +kernel
theorem dX2_rootFor_43 : decode cX2_rootFor 43 = .ok (.ishl, 1) := by decide +kernel
theorem dX2_rootFor_44 : decode cX2_rootFor 44 = .ok (.goto 4, 3) := by decide +kernel
theorem dX2_rootFor_47 : decode cX2_rootFor 47 = .ok (.iconst 0, 1) := by decide +kernel
theorem dX2_rootFor_48 : decode cX2_rootFor 48 = .ok (.ior, 1) := by decide +kernel
theorem dX2_rootFor_49 : decode cX2_rootFor 49 = .ok (.istore_n 2, 1) := by decide +kernel
theorem dX2_rootFor_50 : decode cX2_rootFor 50 = .ok (.iinc 4 1, 3) := by decide +kernel
theorem dX2_rootFor_53 : decode cX2_rootFor 53 = .ok (.goto (-31), 3) := by decide +kernel
theorem dX2_rootFor_56 : decode cX2_rootFor 56 = .ok (.iload_n 3, 1) := by decide +kernel
theorem dX2_rootFor_57 : decode cX2_rootFor 57 = .ok (.ireturn, 1) := by decide +kernel
theorem dX2_firstBest_0 : decode cX2_firstBest 0 = .ok (.iload_n 2, 1) := by decide +kernel
theorem dX2_firstBest_1 : decode cX2_firstBest 1 = .ok (.ifCond .lt 21, 3) := by decide +kernel
theorem dX2_firstBest_4 : decode cX2_firstBest 4 = .ok (.iload_n 2, 1) := by decide +kernel
theorem dX2_firstBest_5 : decode cX2_firstBest 5 = .ok (.aload_n 0, 1) := by decide +kernel
theorem dX2_firstBest_6 : decode cX2_firstBest 6 = .ok (.getfield 15, 3) := by decide +kernel
theorem dX2_firstBest_9 : decode cX2_firstBest 9 = .ok (.arraylength, 1) := by decide +kernel
theorem dX2_firstBest_10 : decode cX2_firstBest 10 = .ok (.if_icmp .ge 12, 3) := by decide +kernel
theorem dX2_firstBest_13 : decode cX2_firstBest 13 = .ok (.aload_n 0, 1) := by decide +kernel
theorem dX2_firstBest_14 : decode cX2_firstBest 14 = .ok (.getfield 15, 3) := by decide +kernel
theorem dX2_firstBest_17 : decode cX2_firstBest 17 = .ok (.iload_n 2, 1) := by decide +kernel
theorem dX2_firstBest_18 : decode cX2_firstBest 18 = .ok (.iaload, 1) := by decide +kernel
theorem dX2_firstBest_19 : decode cX2_firstBest 19 = .ok (.goto 5, 3) := by decide +kernel
theorem dX2_firstBest_22 : decode cX2_firstBest 22 = .ok (.ldc 35, 2) := by decide +kernel
theorem dX2_firstBest_24 : decode cX2_firstBest 24 = .ok (.istore_n 3, 1) := by decide +kernel
theorem dX2_firstBest_25 : decode cX2_firstBest 25 = .ok (.iconst 0, 1) := by decide +kernel
theorem dX2_firstBest_26 : decode cX2_firstBest 26 = .ok (.istore 4, 2) := by decide +kernel
theorem dX2_firstBest_28 : decode cX2_firstBest 28 = .ok (.iload 4, 2) := by decide +kernel
theorem dX2_firstBest_30 : decode cX2_firstBest 30 = .ok (.aload_n 0, 1) := by decide +kernel
theorem dX2_firstBest_31 : decode cX2_firstBest 31 = .ok (.getfield 22, 3) := by decide +kernel
theorem dX2_firstBest_34 : decode cX2_firstBest 34 = .ok (.if_icmp .ge 30, 3) := by decide +kernel
theorem dX2_firstBest_37 : decode cX2_firstBest 37 = .ok (.iload_n 3, 1) := by decide +kernel
theorem dX2_firstBest_38 : decode cX2_firstBest 38 = .ok (.ldc 35, 2) := by decide +kernel
theorem dX2_firstBest_40 : decode cX2_firstBest 40 = .ok (.if_icmp .ge 18, 3) := by decide +kernel
theorem dX2_firstBest_43 : decode cX2_firstBest 43 = .ok (.aload_n 0, 1) := by decide +kernel
theorem dX2_firstBest_44 : decode cX2_firstBest 44 = .ok (.iload_n 1, 1) := by decide +kernel
theorem dX2_firstBest_45 : decode cX2_firstBest 45 = .ok (.iload 4, 2) := by decide +kernel
theorem dX2_firstBest_47 : decode cX2_firstBest 47 = .ok (.iload_n 2, 1) := by decide +kernel
theorem dX2_firstBest_48 : decode cX2_firstBest 48 = .ok (.invokevirtual 64, 3) := by decide +kernel
theorem dX2_firstBest_51 : decode cX2_firstBest 51 = .ok (.iload_n 3, 1) := by decide +kernel
theorem dX2_firstBest_52 : decode cX2_firstBest 52 = .ok (.if_icmp .ne 6, 3) := by decide +kernel
theorem dX2_firstBest_55 : decode cX2_firstBest 55 = .ok (.iload 4, 2) := by decide +kernel
theorem dX2_firstBest_57 : decode cX2_firstBest 57 = .ok (.ireturn, 1) := by decide +kernel
theorem dX2_firstBest_58 : decode cX2_firstBest 58 = .ok (.iinc 4 1, 3) := by decide +kernel
theorem dX2_firstBest_61 : decode cX2_firstBest 61 = .ok (.goto (-33), 3) := by decide +kernel
theorem dX2_firstBest_64 : decode cX2_firstBest 64 = .ok (.bipush (-2), 2) := by decide +kernel
theorem dX2_firstBest_66 : decode cX2_firstBest 66 = .ok (.ireturn, 1) := by decide +kernel
theorem dX3_init_0 : decode cX3_init 0 = .ok (.aload_n 0, 1) := by decide +kernel
theorem dX3_init_1 : decode cX3_init 1 = .ok (.invokespecial 3, 3) := by decide +kernel
theorem dX3_init_4 : decode cX3_init 4 = .ok (.aload_n 0, 1) := by decide +kernel
theorem dX3_init_5 : decode cX3_init 5 = .ok (.bipush 10, 2) := by decide +kernel
theorem dX3_init_7 : decode cX3_init 7 = .ok (.newarray .int, 2) := by decide +kernel
theorem dX3_init_9 : decode cX3_init 9 = .ok (.putfield 9, 3) := by decide +kernel
theorem dX3_init_12 : decode cX3_init 12 = .ok (.aload_n 0, 1) := by decide +kernel
theorem dX3_init_13 : decode cX3_init 13 = .ok (.bipush 11, 2) := by decide +kernel
theorem dX3_init_15 : decode cX3_init 15 = .ok (.newarray .int, 2) := by decide +kernel
theorem dX3_init_17 : decode cX3_init 17 = .ok (.putfield 15, 3) := by decide +kernel
theorem dX3_init_20 : decode cX3_init 20 = .ok (.aload_n 0, 1) := by decide +kernel
theorem dX3_init_21 : decode cX3_init 21 = .ok (.iconst 0, 1) := by decide +kernel
theorem dX3_init_22 : decode cX3_init 22 = .ok (.putfield 18, 3) := by decide +kernel
theorem dX3_init_25 : decode cX3_init 25 = .ok (.aload_n 0, 1) := by decide +kernel
theorem dX3_init_26 : decode cX3_init 26 = .ok (.iconst (-1), 1) := by decide +kernel
theorem dX3_init_27 : decode cX3_init 27 = .ok (.putfield 22, 3) := by decide +kernel
theorem dX3_init_30 : decode cX3_init 30 = .ok (.aload_n 0, 1) := by decide +kernel
theorem dX3_init_31 : decode cX3_init 31 = .ok (.iconst (-1), 1) := by decide +kernel
theorem dX3_init_32 : decode cX3_init 32 = .ok (.putfield 25, 3) := by decide +kernel
theorem dX3_init_35 : decode cX3_init 35 = .ok (.aload_n 0, 1) := by decide +kernel
theorem dX3_init_36 : decode cX3_init 36 = .ok (.iconst 0, 1) := by decide +kernel
theorem dX3_init_37 : decode cX3_init 37 = .ok (.putfield 28, 3) := by decide +kernel
theorem dX3_init_40 : decode cX3_init 40 = .ok (.return_, 1) := by decide +kernel
theorem dX3_many_0 : decode cX3_many 0 = .ok (.aload_n 0, 1) := by decide +kernel
theorem dX3_many_1 : decode cX3_many 1 = .ok (.getfield 18, 3) := by decide +kernel
theorem dX3_many_4 : decode cX3_many 4 = .ok (.ireturn, 1) := by decide +kernel
theorem dX3_first_0 : decode cX3_first 0 = .ok (.aload_n 0, 1) := by decide +kernel
theorem dX3_first_1 : decode cX3_first 1 = .ok (.getfield 22, 3) := by decide +kernel
theorem dX3_first_4 : decode cX3_first 4 = .ok (.ireturn, 1) := by decide +kernel
theorem dX3_tellingDay_0 : decode cX3_tellingDay 0 = .ok (.aload_n 0, 1) := by decide +kernel
theorem dX3_tellingDay_1 : decode cX3_tellingDay 1 = .ok (.getfield 25, 3) := by decide +kernel
theorem dX3_tellingDay_4 : decode cX3_tellingDay 4 = .ok (.ireturn, 1) := by decide +kernel
theorem dX3_tellingSets_0 : decode cX3_tellingSets 0 = .ok (.aload_n 0, 1) := by decide +kernel
theorem dX3_tellingSets_1 : decode cX3_tellingSets 1 = .ok (.getfield 28, 3) := by decide +kernel
theorem dX3_tellingSets_4 : decode cX3_tellingSets 4 = .ok (.ireturn, 1) := by decide +kernel
theorem dX3_find_0 : decode cX3_find 0 = .ok (.aload_n 0, 1) := by decide +kernel
theorem dX3_find_1 : decode cX3_find 1 = .ok (.iconst 0, 1) := by decide +kernel
theorem dX3_find_2 : decode cX3_find 2 = .ok (.putfield 18, 3) := by decide +kernel
theorem dX3_find_5 : decode cX3_find 5 = .ok (.aload_n 0, 1) := by decide +kernel
theorem dX3_find_6 : decode cX3_find 6 = .ok (.iconst (-1), 1) := by decide +kernel
theorem dX3_find_7 : decode cX3_find 7 = .ok (.putfield 22, 3) := by decide +kernel
theorem dX3_find_10 : decode cX3_find 10 = .ok (.iconst 0, 1) := by decide +kernel
theorem dX3_find_11 : decode cX3_find 11 = .ok (.istore 5, 2) := by decide +kernel
theorem dX3_find_13 : decode cX3_find 13 = .ok (.iload 5, 2) := by decide +kernel
theorem dX3_find_15 : decode cX3_find 15 = .ok (.aload_n 0, 1) := by decide +kernel
theorem dX3_find_16 : decode cX3_find 16 = .ok (.getfield 9, 3) := by decide +kernel
theorem dX3_find_19 : decode cX3_find 19 = .ok (.arraylength, 1) := by decide +kernel
theorem dX3_find_20 : decode cX3_find 20 = .ok (.if_icmp .ge 114, 3) := by decide +kernel
theorem dX3_find_23 : decode cX3_find 23 = .ok (.aload_n 0, 1) := by decide +kernel
theorem dX3_find_24 : decode cX3_find 24 = .ok (.getfield 9, 3) := by decide +kernel
theorem dX3_find_27 : decode cX3_find 27 = .ok (.iload 5, 2) := by decide +kernel
theorem dX3_find_29 : decode cX3_find 29 = .ok (.iconst 0, 1) := by decide +kernel
theorem dX3_find_30 : decode cX3_find 30 = .ok (.iastore, 1) := by decide +kernel
theorem dX3_find_31 : decode cX3_find 31 = .ok (.iconst 0, 1) := by decide +kernel
theorem dX3_find_32 : decode cX3_find 32 = .ok (.istore 6, 2) := by decide +kernel
theorem dX3_find_34 : decode cX3_find 34 = .ok (.iload 6, 2) := by decide +kernel
theorem dX3_find_36 : decode cX3_find 36 = .ok (.bipush 10, 2) := by decide +kernel
theorem dX3_find_38 : decode cX3_find 38 = .ok (.if_icmp .ge 90, 3) := by decide +kernel
theorem dX3_find_41 : decode cX3_find 41 = .ok (.iload 5, 2) := by decide +kernel
theorem dX3_find_43 : decode cX3_find 43 = .ok (.iload_n 3, 1) := by decide +kernel
theorem dX3_find_44 : decode cX3_find 44 = .ok (.if_icmp .ge 84, 3) := by decide +kernel
theorem dX3_find_47 : decode cX3_find 47 = .ok (.iload 4, 2) := by decide +kernel
theorem dX3_find_49 : decode cX3_find 49 = .ok (.iload 5, 2) := by decide +kernel
theorem dX3_find_51 : decode cX3_find 51 = .ok (.ishr, 1) := by decide +kernel
theorem dX3_find_52 : decode cX3_find 52 = .ok (.iconst 1, 1) := by decide +kernel
theorem dX3_find_53 : decode cX3_find 53 = .ok (.iand, 1) := by decide +kernel
theorem dX3_find_54 : decode cX3_find 54 = .ok (.ifCond .ne 74, 3) := by decide +kernel
theorem dX3_find_57 : decode cX3_find 57 = .ok (.aload_n 0, 1) := by decide +kernel
theorem dX3_find_58 : decode cX3_find 58 = .ok (.aload_n 1, 1) := by decide +kernel
theorem dX3_find_59 : decode cX3_find 59 = .ok (.aload_n 2, 1) := by decide +kernel
theorem dX3_find_60 : decode cX3_find 60 = .ok (.iconst 1, 1) := by decide +kernel
theorem dX3_find_61 : decode cX3_find 61 = .ok (.iload 5, 2) := by decide +kernel
theorem dX3_find_63 : decode cX3_find 63 = .ok (.ishl, 1) := by decide +kernel
theorem dX3_find_64 : decode cX3_find 64 = .ok (.iload 6, 2) := by decide +kernel
theorem dX3_find_66 : decode cX3_find 66 = .ok (.invokevirtual 31, 3) := by decide +kernel
theorem dX3_find_69 : decode cX3_find 69 = .ok (.ifCond .eq 53, 3) := by decide +kernel
theorem dX3_find_72 : decode cX3_find 72 = .ok (.aload_n 0, 1) := by decide +kernel
theorem dX3_find_73 : decode cX3_find 73 = .ok (.getfield 9, 3) := by decide +kernel
theorem dX3_find_76 : decode cX3_find 76 = .ok (.iload 5, 2) := by decide +kernel
theorem dX3_find_78 : decode cX3_find 78 = .ok (.dup2, 1) := by decide +kernel
theorem dX3_find_79 : decode cX3_find 79 = .ok (.iaload, 1) := by decide +kernel
theorem dX3_find_80 : decode cX3_find 80 = .ok (.iconst 1, 1) := by decide +kernel
theorem dX3_find_81 : decode cX3_find 81 = .ok (.iload 6, 2) := by decide +kernel
theorem dX3_find_83 : decode cX3_find 83 = .ok (.ishl, 1) := by decide +kernel
theorem dX3_find_84 : decode cX3_find 84 = .ok (.ior, 1) := by decide +kernel
theorem dX3_find_85 : decode cX3_find 85 = .ok (.iastore, 1) := by decide +kernel
theorem dX3_find_86 : decode cX3_find 86 = .ok (.aload_n 0, 1) := by decide +kernel
theorem dX3_find_87 : decode cX3_find 87 = .ok (.aload_n 0, 1) := by decide +kernel
theorem dX3_find_88 : decode cX3_find 88 = .ok (.getfield 18, 3) := by decide +kernel
theorem dX3_find_91 : decode cX3_find 91 = .ok (.ifCond .ne 14, 3) := by decide +kernel
theorem dX3_find_94 : decode cX3_find 94 = .ok (.bipush 10, 2) := by decide +kernel
theorem dX3_find_96 : decode cX3_find 96 = .ok (.iload 5, 2) := by decide +kernel
theorem dX3_find_98 : decode cX3_find 98 = .ok (.imul, 1) := by decide +kernel
theorem dX3_find_99 : decode cX3_find 99 = .ok (.iload 6, 2) := by decide +kernel
theorem dX3_find_101 : decode cX3_find 101 = .ok (.iadd, 1) := by decide +kernel
theorem dX3_find_102 : decode cX3_find 102 = .ok (.goto 7, 3) := by decide +kernel
theorem dX3_find_105 : decode cX3_find 105 = .ok (.aload_n 0, 1) := by decide +kernel
theorem dX3_find_106 : decode cX3_find 106 = .ok (.getfield 22, 3) := by decide +kernel
theorem dX3_find_109 : decode cX3_find 109 = .ok (.putfield 22, 3) := by decide +kernel
theorem dX3_find_112 : decode cX3_find 112 = .ok (.aload_n 0, 1) := by decide +kernel
theorem dX3_find_113 : decode cX3_find 113 = .ok (.dup, 1) := by decide +kernel
theorem dX3_find_114 : decode cX3_find 114 = .ok (.getfield 18, 3) := by decide +kernel
theorem dX3_find_117 : decode cX3_find 117 = .ok (.iconst 1, 1) := by decide +kernel
theorem dX3_find_118 : decode cX3_find 118 = .ok (.iadd, 1) := by decide +kernel
theorem dX3_find_119 : decode cX3_find 119 = .ok (.putfield 18, 3) := by decide +kernel
theorem dX3_find_122 : decode cX3_find 122 = .ok (.iinc 6 1, 3) := by decide +kernel
theorem dX3_find_125 : decode cX3_find 125 = .ok (.goto (-91), 3) := by decide +kernel
theorem dX3_find_128 : decode cX3_find 128 = .ok (.iinc 5 1, 3) := by decide +kernel
theorem dX3_find_131 : decode cX3_find 131 = .ok (.goto (-118), 3) := by decide +kernel
theorem dX3_find_134 : decode cX3_find 134 = .ok (.return_, 1) := by decide +kernel
theorem dX3_agrees_0 : decode cX3_agrees 0 = .ok (.aload_n 2, 1) := by decide +kernel
theorem dX3_agrees_1 : decode cX3_agrees 1 = .ok (.invokevirtual 35, 3) := by decide +kernel
theorem dX3_agrees_4 : decode cX3_agrees 4 = .ok (.istore 5, 2) := by decide +kernel
theorem dX3_agrees_6 : decode cX3_agrees 6 = .ok (.iconst 0, 1) := by decide +kernel
theorem dX3_agrees_7 : decode cX3_agrees 7 = .ok (.istore 6, 2) := by decide +kernel
theorem dX3_agrees_9 : decode cX3_agrees 9 = .ok (.iload 6, 2) := by decide +kernel
theorem dX3_agrees_11 : decode cX3_agrees 11 = .ok (.iload 5, 2) := by decide +kernel
theorem dX3_agrees_13 : decode cX3_agrees 13 = .ok (.if_icmp .ge 64, 3) := by decide +kernel
theorem dX3_agrees_16 : decode cX3_agrees 16 = .ok (.aload_n 2, 1) := by decide +kernel
theorem dX3_agrees_17 : decode cX3_agrees 17 = .ok (.iload 6, 2) := by decide +kernel
theorem dX3_agrees_19 : decode cX3_agrees 19 = .ok (.invokevirtual 40, 3) := by decide +kernel
theorem dX3_agrees_22 : decode cX3_agrees 22 = .ok (.istore 7, 2) := by decide +kernel
theorem dX3_agrees_24 : decode cX3_agrees 24 = .ok (.aload_n 1, 1) := by decide +kernel
theorem dX3_agrees_25 : decode cX3_agrees 25 = .ok (.iload 7, 2) := by decide +kernel
theorem dX3_agrees_27 : decode cX3_agrees 27 = .ok (.invokevirtual 44, 3) := by decide +kernel
theorem dX3_agrees_30 : decode cX3_agrees 30 = .ok (.istore 8, 2) := by decide +kernel
theorem dX3_agrees_32 : decode cX3_agrees 32 = .ok (.iload 7, 2) := by decide +kernel
theorem dX3_agrees_34 : decode cX3_agrees 34 = .ok (.iload 4, 2) := by decide +kernel
theorem dX3_agrees_36 : decode cX3_agrees 36 = .ok (.if_icmp .lt 12, 3) := by decide +kernel
theorem dX3_agrees_39 : decode cX3_agrees 39 = .ok (.iload 8, 2) := by decide +kernel
theorem dX3_agrees_41 : decode cX3_agrees 41 = .ok (.iload_n 3, 1) := by decide +kernel
theorem dX3_agrees_42 : decode cX3_agrees 42 = .ok (.iconst (-1), 1) := by decide +kernel
theorem dX3_agrees_43 : decode cX3_agrees 43 = .ok (.ixor, 1) := by decide +kernel
theorem dX3_agrees_44 : decode cX3_agrees 44 = .ok (.iand, 1) := by decide +kernel
theorem dX3_agrees_45 : decode cX3_agrees 45 = .ok (.goto 5, 3) := by decide +kernel
theorem dX3_agrees_48 : decode cX3_agrees 48 = .ok (.iload 8, 2) := by decide +kernel
theorem dX3_agrees_50 : decode cX3_agrees 50 = .ok (.istore 9, 2) := by decide +kernel
theorem dX3_agrees_52 : decode cX3_agrees 52 = .ok (.aload_n 2, 1) := by decide +kernel
theorem dX3_agrees_53 : decode cX3_agrees 53 = .ok (.iload 6, 2) := by decide +kernel
theorem dX3_agrees_55 : decode cX3_agrees 55 = .ok (.aload_n 1, 1) := by decide +kernel
theorem dX3_agrees_56 : decode cX3_agrees 56 = .ok (.iload 7, 2) := by decide +kernel
theorem dX3_agrees_58 : decode cX3_agrees 58 = .ok (.iload 9, 2) := by decide +kernel
theorem dX3_agrees_60 : decode cX3_agrees 60 = .ok (.invokevirtual 49, 3) := by decide +kernel
theorem dX3_agrees_63 : decode cX3_agrees 63 = .ok (.invokevirtual 53, 3) := by decide +kernel
theorem dX3_agrees_66 : decode cX3_agrees 66 = .ok (.ifCond .ne 5, 3) := by decide +kernel
theorem dX3_agrees_69 : decode cX3_agrees 69 = .ok (.iconst 0, 1) := by decide +kernel
theorem dX3_agrees_70 : decode cX3_agrees 70 = .ok (.ireturn, 1) := by decide +kernel
theorem dX3_agrees_71 : decode cX3_agrees 71 = .ok (.iinc 6 1, 3) := by decide +kernel
theorem dX3_agrees_74 : decode cX3_agrees 74 = .ok (.goto (-65), 3) := by decide +kernel
theorem dX3_agrees_77 : decode cX3_agrees 77 = .ok (.iconst 1, 1) := by decide +kernel
theorem dX3_agrees_78 : decode cX3_agrees 78 = .ok (.ireturn, 1) := by decide +kernel
theorem dX3_findDay_0 : decode cX3_findDay 0 = .ok (.aload_n 0, 1) := by decide +kernel
theorem dX3_findDay_1 : decode cX3_findDay 1 = .ok (.iconst (-1), 1) := by decide +kernel
theorem dX3_findDay_2 : decode cX3_findDay 2 = .ok (.putfield 25, 3) := by decide +kernel
theorem dX3_findDay_5 : decode cX3_findDay 5 = .ok (.aload_n 0, 1) := by decide +kernel
theorem dX3_findDay_6 : decode cX3_findDay 6 = .ok (.iconst 0, 1) := by decide +kernel
theorem dX3_findDay_7 : decode cX3_findDay 7 = .ok (.putfield 28, 3) := by decide +kernel
theorem dX3_findDay_10 : decode cX3_findDay 10 = .ok (.iconst 0, 1) := by decide +kernel
theorem dX3_findDay_11 : decode cX3_findDay 11 = .ok (.istore_n 2, 1) := by decide +kernel
theorem dX3_findDay_12 : decode cX3_findDay 12 = .ok (.iload_n 2, 1) := by decide +kernel
theorem dX3_findDay_13 : decode cX3_findDay 13 = .ok (.bipush 30, 2) := by decide +kernel
theorem dX3_findDay_15 : decode cX3_findDay 15 = .ok (.if_icmp .gt 34, 3) := by decide +kernel
theorem dX3_findDay_18 : decode cX3_findDay 18 = .ok (.aload_n 0, 1) := by decide +kernel
theorem dX3_findDay_19 : decode cX3_findDay 19 = .ok (.aload_n 1, 1) := by decide +kernel
theorem dX3_findDay_20 : decode cX3_findDay 20 = .ok (.iload_n 2, 1) := by decide +kernel
theorem dX3_findDay_21 : decode cX3_findDay 21 = .ok (.invokevirtual 57, 3) := by decide +kernel
theorem dX3_findDay_24 : decode cX3_findDay 24 = .ok (.istore_n 3, 1) := by decide +kernel
theorem dX3_findDay_25 : decode cX3_findDay 25 = .ok (.iload_n 3, 1) := by decide +kernel
theorem dX3_findDay_26 : decode cX3_findDay 26 = .ok (.aload_n 0, 1) := by decide +kernel
theorem dX3_findDay_27 : decode cX3_findDay 27 = .ok (.getfield 28, 3) := by decide +kernel
theorem dX3_findDay_30 : decode cX3_findDay 30 = .ok (.if_icmp .le 13, 3) := by decide +kernel
theorem dX3_findDay_33 : decode cX3_findDay 33 = .ok (.aload_n 0, 1) := by decide +kernel
theorem dX3_findDay_34 : decode cX3_findDay 34 = .ok (.iload_n 3, 1) := by decide +kernel
theorem dX3_findDay_35 : decode cX3_findDay 35 = .ok (.putfield 28, 3) := by decide +kernel
theorem dX3_findDay_38 : decode cX3_findDay 38 = .ok (.aload_n 0, 1) := by decide +kernel
theorem dX3_findDay_39 : decode cX3_findDay 39 = .ok (.iload_n 2, 1) := by decide +kernel
theorem dX3_findDay_40 : decode cX3_findDay 40 = .ok (.putfield 25, 3) := by decide +kernel
theorem dX3_findDay_43 : decode cX3_findDay 43 = .ok (.iinc 2 1, 3) := by decide +kernel
theorem dX3_findDay_46 : decode cX3_findDay 46 = .ok (.goto (-34), 3) := by decide +kernel
theorem dX3_findDay_49 : decode cX3_findDay 49 = .ok (.return_, 1) := by decide +kernel
theorem dX3_unlikeSets_0 : decode cX3_unlikeSets 0 = .ok (.aload_n 1, 1) := by decide +kernel
theorem dX3_unlikeSets_1 : decode cX3_unlikeSets 1 = .ok (.iload_n 2, 1) := by decide +kernel
theorem dX3_unlikeSets_2 : decode cX3_unlikeSets 2 = .ok (.invokevirtual 44, 3) := by decide +kernel
theorem dX3_unlikeSets_5 : decode cX3_unlikeSets 5 = .ok (.istore_n 3, 1) := by decide +kernel
theorem dX3_unlikeSets_6 : decode cX3_unlikeSets 6 = .ok (.iconst 1, 1) := by decide +kernel
theorem dX3_unlikeSets_7 : decode cX3_unlikeSets 7 = .ok (.iload_n 2, 1) := by decide +kernel
theorem dX3_unlikeSets_8 : decode cX3_unlikeSets 8 = .ok (.iconst 1, 1) := by decide +kernel
theorem dX3_unlikeSets_9 : decode cX3_unlikeSets 9 = .ok (.iadd, 1) := by decide +kernel
theorem dX3_unlikeSets_10 : decode cX3_unlikeSets 10 = .ok (.bipush 10, 2) := by decide +kernel
theorem dX3_unlikeSets_12 : decode cX3_unlikeSets 12 = .ok (.invokestatic 61, 3) := by decide +kernel
theorem dX3_unlikeSets_15 : decode cX3_unlikeSets 15 = .ok (.ishl, 1) := by decide +kernel
theorem dX3_unlikeSets_16 : decode cX3_unlikeSets 16 = .ok (.iconst 1, 1) := by decide +kernel
theorem dX3_unlikeSets_17 : decode cX3_unlikeSets 17 = .ok (.isub, 1) := by decide +kernel
theorem dX3_unlikeSets_18 : decode cX3_unlikeSets 18 = .ok (.istore 4, 2) := by decide +kernel
theorem dX3_unlikeSets_20 : decode cX3_unlikeSets 20 = .ok (.iconst 0, 1) := by decide +kernel
theorem dX3_unlikeSets_21 : decode cX3_unlikeSets 21 = .ok (.istore 5, 2) := by decide +kernel
theorem dX3_unlikeSets_23 : decode cX3_unlikeSets 23 = .ok (.iconst 0, 1) := by decide +kernel
theorem dX3_unlikeSets_24 : decode cX3_unlikeSets 24 = .ok (.istore 6, 2) := by decide +kernel
theorem dX3_unlikeSets_26 : decode cX3_unlikeSets 26 = .ok (.iconst 0, 1) := by decide +kernel
theorem dX3_unlikeSets_27 : decode cX3_unlikeSets 27 = .ok (.istore 7, 2) := by decide +kernel
theorem dX3_unlikeSets_29 : decode cX3_unlikeSets 29 = .ok (.iload 7, 2) := by decide +kernel
theorem dX3_unlikeSets_31 : decode cX3_unlikeSets 31 = .ok (.aload_n 0, 1) := by decide +kernel
theorem dX3_unlikeSets_32 : decode cX3_unlikeSets 32 = .ok (.getfield 9, 3) := by decide +kernel
theorem dX3_unlikeSets_35 : decode cX3_unlikeSets 35 = .ok (.arraylength, 1) := by decide +kernel
theorem dX3_unlikeSets_36 : decode cX3_unlikeSets 36 = .ok (.if_icmp .ge 70, 3) := by decide +kernel
theorem dX3_unlikeSets_39 : decode cX3_unlikeSets 39 = .ok (.aload_n 0, 1) := by decide +kernel
theorem dX3_unlikeSets_40 : decode cX3_unlikeSets 40 = .ok (.getfield 9, 3) := by decide +kernel
theorem dX3_unlikeSets_43 : decode cX3_unlikeSets 43 = .ok (.iload 7, 2) := by decide +kernel
theorem dX3_unlikeSets_45 : decode cX3_unlikeSets 45 = .ok (.iaload, 1) := by decide +kernel
theorem dX3_unlikeSets_46 : decode cX3_unlikeSets 46 = .ok (.iload 4, 2) := by decide +kernel
theorem dX3_unlikeSets_48 : decode cX3_unlikeSets 48 = .ok (.iand, 1) := by decide +kernel
theorem dX3_unlikeSets_49 : decode cX3_unlikeSets 49 = .ok (.ifCond .eq 24, 3) := by decide +kernel
theorem dX3_unlikeSets_52 : decode cX3_unlikeSets 52 = .ok (.aload_n 0, 1) := by decide +kernel
theorem dX3_unlikeSets_53 : decode cX3_unlikeSets 53 = .ok (.aload_n 1, 1) := by decide +kernel
theorem dX3_unlikeSets_54 : decode cX3_unlikeSets 54 = .ok (.iload_n 2, 1) := by decide +kernel
theorem dX3_unlikeSets_55 : decode cX3_unlikeSets 55 = .ok (.iload_n 3, 1) := by decide +kernel
theorem dX3_unlikeSets_56 : decode cX3_unlikeSets 56 = .ok (.iconst 1, 1) := by decide +kernel
theorem dX3_unlikeSets_57 : decode cX3_unlikeSets 57 = .ok (.iload 7, 2) := by decide +kernel
theorem dX3_unlikeSets_59 : decode cX3_unlikeSets 59 = .ok (.ishl, 1) := by decide +kernel
theorem dX3_unlikeSets_60 : decode cX3_unlikeSets 60 = .ok (.iconst (-1), 1) := by decide +kernel
theorem dX3_unlikeSets_61 : decode cX3_unlikeSets 61 = .ok (.ixor, 1) := by decide +kernel
theorem dX3_unlikeSets_62 : decode cX3_unlikeSets 62 = .ok (.iand, 1) := by decide +kernel
theorem dX3_unlikeSets_63 : decode cX3_unlikeSets 63 = .ok (.invokevirtual 49, 3) := by decide +kernel
theorem dX3_unlikeSets_66 : decode cX3_unlikeSets 66 = .ok (.iload 6, 2) := by decide +kernel
theorem dX3_unlikeSets_68 : decode cX3_unlikeSets 68 = .ok (.invokevirtual 66, 3) := by decide +kernel
theorem dX3_unlikeSets_71 : decode cX3_unlikeSets 71 = .ok (.istore 6, 2) := by decide +kernel
theorem dX3_unlikeSets_73 : decode cX3_unlikeSets 73 = .ok (.iload 5, 2) := by decide +kernel
theorem dX3_unlikeSets_75 : decode cX3_unlikeSets 75 = .ok (.ifCond .ne 18, 3) := by decide +kernel
theorem dX3_unlikeSets_78 : decode cX3_unlikeSets 78 = .ok (.aload_n 0, 1) := by decide +kernel
theorem dX3_unlikeSets_79 : decode cX3_unlikeSets 79 = .ok (.getfield 9, 3) := by decide +kernel
theorem dX3_unlikeSets_82 : decode cX3_unlikeSets 82 = .ok (.iload 7, 2) := by decide +kernel
theorem dX3_unlikeSets_84 : decode cX3_unlikeSets 84 = .ok (.iaload, 1) := by decide +kernel
theorem dX3_unlikeSets_85 : decode cX3_unlikeSets 85 = .ok (.iload 4, 2) := by decide +kernel
theorem dX3_unlikeSets_87 : decode cX3_unlikeSets 87 = .ok (.iconst (-1), 1) := by decide +kernel
theorem dX3_unlikeSets_88 : decode cX3_unlikeSets 88 = .ok (.ixor, 1) := by decide +kernel
theorem dX3_unlikeSets_89 : decode cX3_unlikeSets 89 = .ok (.iand, 1) := by decide +kernel
theorem dX3_unlikeSets_90 : decode cX3_unlikeSets 90 = .ok (.ifCond .eq 7, 3) := by decide +kernel
theorem dX3_unlikeSets_93 : decode cX3_unlikeSets 93 = .ok (.iconst 1, 1) := by decide +kernel
theorem dX3_unlikeSets_94 : decode cX3_unlikeSets 94 = .ok (.goto 4, 3) := by decide +kernel
theorem dX3_unlikeSets_97 : decode cX3_unlikeSets 97 = .ok (.iconst 0, 1) := by decide +kernel
theorem dX3_unlikeSets_98 : decode cX3_unlikeSets 98 = .ok (.istore 5, 2) := by decide +kernel
theorem dX3_unlikeSets_100 : decode cX3_unlikeSets 100 = .ok (.iinc 7 1, 3) := by decide +kernel
theorem dX3_unlikeSets_103 : decode cX3_unlikeSets 103 = .ok (.goto (-74), 3) := by decide +kernel
theorem dX3_unlikeSets_106 : decode cX3_unlikeSets 106 = .ok (.iload 5, 2) := by decide +kernel
theorem dX3_unlikeSets_108 : decode cX3_unlikeSets 108 = .ok (.ifCond .eq 18, 3) := by decide +kernel
theorem dX3_unlikeSets_111 : decode cX3_unlikeSets 111 = .ok (.aload_n 0, 1) := by decide +kernel
theorem dX3_unlikeSets_112 : decode cX3_unlikeSets 112 = .ok (.aload_n 1, 1) := by decide +kernel
theorem dX3_unlikeSets_113 : decode cX3_unlikeSets 113 = .ok (.iload_n 2, 1) := by decide +kernel
theorem dX3_unlikeSets_114 : decode cX3_unlikeSets 114 = .ok (.iload_n 3, 1) := by decide +kernel
theorem dX3_unlikeSets_115 : decode cX3_unlikeSets 115 = .ok (.invokevirtual 49, 3) := by decide +kernel
theorem dX3_unlikeSets_118 : decode cX3_unlikeSets 118 = .ok (.iload 6, 2) := by decide +kernel
theorem dX3_unlikeSets_120 : decode cX3_unlikeSets 120 = .ok (.invokevirtual 66, 3) := by decide +kernel
theorem dX3_unlikeSets_123 : decode cX3_unlikeSets 123 = .ok (.goto 5, 3) := by decide +kernel
theorem dX3_unlikeSets_126 : decode cX3_unlikeSets 126 = .ok (.iload 6, 2) := by decide +kernel
theorem dX3_unlikeSets_128 : decode cX3_unlikeSets 128 = .ok (.ireturn, 1) := by decide +kernel
theorem dX3_withSet_0 : decode cX3_withSet 0 = .ok (.iconst 0, 1) := by decide +kernel
theorem dX3_withSet_1 : decode cX3_withSet 1 = .ok (.istore_n 3, 1) := by decide +kernel
theorem dX3_withSet_2 : decode cX3_withSet 2 = .ok (.iload_n 3, 1) := by decide +kernel
theorem dX3_withSet_3 : decode cX3_withSet 3 = .ok (.iload_n 2, 1) := by decide +kernel
theorem dX3_withSet_4 : decode cX3_withSet 4 = .ok (.if_icmp .ge 30, 3) := by decide +kernel
theorem dX3_withSet_7 : decode cX3_withSet 7 = .ok (.iload_n 3, 1) := by decide +kernel
theorem dX3_withSet_8 : decode cX3_withSet 8 = .ok (.aload_n 0, 1) := by decide +kernel
theorem dX3_withSet_9 : decode cX3_withSet 9 = .ok (.getfield 15, 3) := by decide +kernel
theorem dX3_withSet_12 : decode cX3_withSet 12 = .ok (.arraylength, 1) := by decide +kernel
theorem dX3_withSet_13 : decode cX3_withSet 13 = .ok (.if_icmp .ge 21, 3) := by decide +kernel
theorem dX3_withSet_16 : decode cX3_withSet 16 = .ok (.aload_n 0, 1) := by decide +kernel
theorem dX3_withSet_17 : decode cX3_withSet 17 = .ok (.getfield 15, 3) := by decide +kernel
theorem dX3_withSet_20 : decode cX3_withSet 20 = .ok (.iload_n 3, 1) := by decide +kernel
theorem dX3_withSet_21 : decode cX3_withSet 21 = .ok (.iaload, 1) := by decide +kernel
theorem dX3_withSet_22 : decode cX3_withSet 22 = .ok (.iload_n 1, 1) := by decide +kernel
theorem dX3_withSet_23 : decode cX3_withSet 23 = .ok (.if_icmp .ne 5, 3) := by decide +kernel
theorem dX3_withSet_26 : decode cX3_withSet 26 = .ok (.iload_n 2, 1) := by decide +kernel
theorem dX3_withSet_27 : decode cX3_withSet 27 = .ok (.ireturn, 1) := by decide +kernel
theorem dX3_withSet_28 : decode cX3_withSet 28 = .ok (.iinc 3 1, 3) := by decide +kernel
theorem dX3_withSet_31 : decode cX3_withSet 31 = .ok (.goto (-29), 3) := by decide +kernel
theorem dX3_withSet_34 : decode cX3_withSet 34 = .ok (.iload_n 2, 1) := by decide +kernel
theorem dX3_withSet_35 : decode cX3_withSet 35 = .ok (.ifCond .lt 19, 3) := by decide +kernel
theorem dX3_withSet_38 : decode cX3_withSet 38 = .ok (.iload_n 2, 1) := by decide +kernel
theorem dX3_withSet_39 : decode cX3_withSet 39 = .ok (.aload_n 0, 1) := by decide +kernel
theorem dX3_withSet_40 : decode cX3_withSet 40 = .ok (.getfield 15, 3) := by decide +kernel
theorem dX3_withSet_43 : decode cX3_withSet 43 = .ok (.arraylength, 1) := by decide +kernel
theorem dX3_withSet_44 : decode cX3_withSet 44 = .ok (.if_icmp .ge 10, 3) := by decide +kernel
theorem dX3_withSet_47 : decode cX3_withSet 47 = .ok (.aload_n 0, 1) := by decide +kernel
theorem dX3_withSet_48 : decode cX3_withSet 48 = .ok (.getfield 15, 3) := by decide +kernel
theorem dX3_withSet_51 : decode cX3_withSet 51 = .ok (.iload_n 2, 1) := by decide +kernel
theorem dX3_withSet_52 : decode cX3_withSet 52 = .ok (.iload_n 1, 1) := by decide +kernel
theorem dX3_withSet_53 : decode cX3_withSet 53 = .ok (.iastore, 1) := by decide +kernel
theorem dX3_withSet_54 : decode cX3_withSet 54 = .ok (.iload_n 2, 1) := by decide +kernel
theorem dX3_withSet_55 : decode cX3_withSet 55 = .ok (.iconst 1, 1) := by decide +kernel
theorem dX3_withSet_56 : decode cX3_withSet 56 = .ok (.iadd, 1) := by decide +kernel
theorem dX3_withSet_57 : decode cX3_withSet 57 = .ok (.ireturn, 1) := by decide +kernel
theorem dX4_init_0 : decode cX4_init 0 = .ok (.aload_n 0, 1) := by decide +kernel
theorem dX4_init_1 : decode cX4_init 1 = .ok (.invokespecial 3, 3) := by decide +kernel
theorem dX4_init_4 : decode cX4_init 4 = .ok (.aload_n 0, 1) := by decide +kernel
theorem dX4_init_5 : decode cX4_init 5 = .ok (.bipush 8, 2) := by decide +kernel
theorem dX4_init_7 : decode cX4_init 7 = .ok (.newarray .int, 2) := by decide +kernel
theorem dX4_init_9 : decode cX4_init 9 = .ok (.putfield 9, 3) := by decide +kernel
theorem dX4_init_12 : decode cX4_init 12 = .ok (.aload_n 0, 1) := by decide +kernel
theorem dX4_init_13 : decode cX4_init 13 = .ok (.bipush 8, 2) := by decide +kernel
theorem dX4_init_15 : decode cX4_init 15 = .ok (.newarray .int, 2) := by decide +kernel
theorem dX4_init_17 : decode cX4_init 17 = .ok (.putfield 15, 3) := by decide +kernel
theorem dX4_init_20 : decode cX4_init 20 = .ok (.aload_n 0, 1) := by decide +kernel
theorem dX4_init_21 : decode cX4_init 21 = .ok (.bipush 8, 2) := by decide +kernel
theorem dX4_init_23 : decode cX4_init 23 = .ok (.newarray .int, 2) := by decide +kernel
theorem dX4_init_25 : decode cX4_init 25 = .ok (.putfield 18, 3) := by decide +kernel
theorem dX4_init_28 : decode cX4_init 28 = .ok (.aload_n 0, 1) := by decide +kernel
theorem dX4_init_29 : decode cX4_init 29 = .ok (.iconst 0, 1) := by decide +kernel
theorem dX4_init_30 : decode cX4_init 30 = .ok (.putfield 21, 3) := by decide +kernel
theorem dX4_init_33 : decode cX4_init 33 = .ok (.return_, 1) := by decide +kernel
theorem dX4_many_0 : decode cX4_many 0 = .ok (.aload_n 0, 1) := by decide +kernel
theorem dX4_many_1 : decode cX4_many 1 = .ok (.getfield 21, 3) := by decide +kernel
theorem dX4_many_4 : decode cX4_many 4 = .ok (.ireturn, 1) := by decide +kernel
theorem dX4_clear_0 : decode cX4_clear 0 = .ok (.aload_n 0, 1) := by decide +kernel
theorem dX4_clear_1 : decode cX4_clear 1 = .ok (.iconst 0, 1) := by decide +kernel
theorem dX4_clear_2 : decode cX4_clear 2 = .ok (.putfield 21, 3) := by decide +kernel
theorem dX4_clear_5 : decode cX4_clear 5 = .ok (.return_, 1) := by decide +kernel
theorem dX4_copyFrom_0 : decode cX4_copyFrom 0 = .ok (.aload_n 1, 1) := by decide +kernel
theorem dX4_copyFrom_1 : decode cX4_copyFrom 1 = .ok (.getfield 9, 3) := by decide +kernel
theorem dX4_copyFrom_4 : decode cX4_copyFrom 4 = .ok (.iconst 0, 1) := by decide +kernel
theorem dX4_copyFrom_5 : decode cX4_copyFrom 5 = .ok (.aload_n 0, 1) := by decide +kernel
theorem dX4_copyFrom_6 : decode cX4_copyFrom 6 = .ok (.getfield 9, 3) := by decide +kernel
theorem dX4_copyFrom_9 : decode cX4_copyFrom 9 = .ok (.iconst 0, 1) := by decide +kernel
theorem dX4_copyFrom_10 : decode cX4_copyFrom 10 = .ok (.bipush 8, 2) := by decide +kernel
theorem dX4_copyFrom_12 : decode cX4_copyFrom 12 = .ok (.invokestatic 25, 3) := by decide +kernel
theorem dX4_copyFrom_15 : decode cX4_copyFrom 15 = .ok (.aload_n 1, 1) := by decide +kernel
theorem dX4_copyFrom_16 : decode cX4_copyFrom 16 = .ok (.getfield 15, 3) := by decide +kernel
theorem dX4_copyFrom_19 : decode cX4_copyFrom 19 = .ok (.iconst 0, 1) := by decide +kernel
theorem dX4_copyFrom_20 : decode cX4_copyFrom 20 = .ok (.aload_n 0, 1) := by decide +kernel
theorem dX4_copyFrom_21 : decode cX4_copyFrom 21 = .ok (.getfield 15, 3) := by decide +kernel
theorem dX4_copyFrom_24 : decode cX4_copyFrom 24 = .ok (.iconst 0, 1) := by decide +kernel
theorem dX4_copyFrom_25 : decode cX4_copyFrom 25 = .ok (.bipush 8, 2) := by decide +kernel
theorem dX4_copyFrom_27 : decode cX4_copyFrom 27 = .ok (.invokestatic 25, 3) := by decide +kernel
theorem dX4_copyFrom_30 : decode cX4_copyFrom 30 = .ok (.aload_n 1, 1) := by decide +kernel
theorem dX4_copyFrom_31 : decode cX4_copyFrom 31 = .ok (.getfield 18, 3) := by decide +kernel
theorem dX4_copyFrom_34 : decode cX4_copyFrom 34 = .ok (.iconst 0, 1) := by decide +kernel
theorem dX4_copyFrom_35 : decode cX4_copyFrom 35 = .ok (.aload_n 0, 1) := by decide +kernel
theorem dX4_copyFrom_36 : decode cX4_copyFrom 36 = .ok (.getfield 18, 3) := by decide +kernel
theorem dX4_copyFrom_39 : decode cX4_copyFrom 39 = .ok (.iconst 0, 1) := by decide +kernel
theorem dX4_copyFrom_40 : decode cX4_copyFrom 40 = .ok (.bipush 8, 2) := by decide +kernel
theorem dX4_copyFrom_42 : decode cX4_copyFrom 42 = .ok (.invokestatic 25, 3) := by decide +kernel
theorem dX4_copyFrom_45 : decode cX4_copyFrom 45 = .ok (.aload_n 0, 1) := by decide +kernel
theorem dX4_copyFrom_46 : decode cX4_copyFrom 46 = .ok (.aload_n 1, 1) := by decide +kernel
theorem dX4_copyFrom_47 : decode cX4_copyFrom 47 = .ok (.getfield 21, 3) := by decide +kernel
theorem dX4_copyFrom_50 : decode cX4_copyFrom 50 = .ok (.putfield 21, 3) := by decide +kernel
theorem dX4_copyFrom_53 : decode cX4_copyFrom 53 = .ok (.return_, 1) := by decide +kernel
theorem dX4_add_0 : decode cX4_add 0 = .ok (.aload_n 0, 1) := by decide +kernel
theorem dX4_add_1 : decode cX4_add 1 = .ok (.getfield 21, 3) := by decide +kernel
theorem dX4_add_4 : decode cX4_add 4 = .ok (.ifCond .lt 12, 3) := by decide +kernel
theorem dX4_add_7 : decode cX4_add 7 = .ok (.aload_n 0, 1) := by decide +kernel
theorem dX4_add_8 : decode cX4_add 8 = .ok (.getfield 21, 3) := by decide +kernel
theorem dX4_add_11 : decode cX4_add 11 = .ok (.bipush 8, 2) := by decide +kernel
theorem dX4_add_13 : decode cX4_add 13 = .ok (.if_icmp .lt 5, 3) := by decide +kernel
theorem dX4_add_16 : decode cX4_add 16 = .ok (.iconst 0, 1) := by decide +kernel
theorem dX4_add_17 : decode cX4_add 17 = .ok (.ireturn, 1) := by decide +kernel
theorem dX4_add_18 : decode cX4_add 18 = .ok (.aload_n 0, 1) := by decide +kernel
theorem dX4_add_19 : decode cX4_add 19 = .ok (.getfield 9, 3) := by decide +kernel
theorem dX4_add_22 : decode cX4_add 22 = .ok (.aload_n 0, 1) := by decide +kernel
theorem dX4_add_23 : decode cX4_add 23 = .ok (.getfield 21, 3) := by decide +kernel
theorem dX4_add_26 : decode cX4_add 26 = .ok (.iload_n 1, 1) := by decide +kernel
theorem dX4_add_27 : decode cX4_add 27 = .ok (.iastore, 1) := by decide +kernel
theorem dX4_add_28 : decode cX4_add 28 = .ok (.aload_n 0, 1) := by decide +kernel
theorem dX4_add_29 : decode cX4_add 29 = .ok (.getfield 15, 3) := by decide +kernel
theorem dX4_add_32 : decode cX4_add 32 = .ok (.aload_n 0, 1) := by decide +kernel
theorem dX4_add_33 : decode cX4_add 33 = .ok (.getfield 21, 3) := by decide +kernel
theorem dX4_add_36 : decode cX4_add 36 = .ok (.iload_n 2, 1) := by decide +kernel
theorem dX4_add_37 : decode cX4_add 37 = .ok (.iastore, 1) := by decide +kernel
theorem dX4_add_38 : decode cX4_add 38 = .ok (.aload_n 0, 1) := by decide +kernel
theorem dX4_add_39 : decode cX4_add 39 = .ok (.getfield 18, 3) := by decide +kernel
theorem dX4_add_42 : decode cX4_add 42 = .ok (.aload_n 0, 1) := by decide +kernel
theorem dX4_add_43 : decode cX4_add 43 = .ok (.getfield 21, 3) := by decide +kernel
theorem dX4_add_46 : decode cX4_add 46 = .ok (.iload_n 3, 1) := by decide +kernel
theorem dX4_add_47 : decode cX4_add 47 = .ok (.ifCond .eq 7, 3) := by decide +kernel
theorem dX4_add_50 : decode cX4_add 50 = .ok (.iconst 1, 1) := by decide +kernel
theorem dX4_add_51 : decode cX4_add 51 = .ok (.goto 4, 3) := by decide +kernel
theorem dX4_add_54 : decode cX4_add 54 = .ok (.iconst 0, 1) := by decide +kernel
theorem dX4_add_55 : decode cX4_add 55 = .ok (.iastore, 1) := by decide +kernel
theorem dX4_add_56 : decode cX4_add 56 = .ok (.aload_n 0, 1) := by decide +kernel
theorem dX4_add_57 : decode cX4_add 57 = .ok (.dup, 1) := by decide +kernel
theorem dX4_add_58 : decode cX4_add 58 = .ok (.getfield 21, 3) := by decide +kernel
theorem dX4_add_61 : decode cX4_add 61 = .ok (.iconst 1, 1) := by decide +kernel
theorem dX4_add_62 : decode cX4_add 62 = .ok (.iadd, 1) := by decide +kernel
theorem dX4_add_63 : decode cX4_add 63 = .ok (.putfield 21, 3) := by decide +kernel
theorem dX4_add_66 : decode cX4_add 66 = .ok (.iconst 1, 1) := by decide +kernel
theorem dX4_add_67 : decode cX4_add 67 = .ok (.ireturn, 1) := by decide +kernel
theorem dX4_dayOf_0 : decode cX4_dayOf 0 = .ok (.iload_n 1, 1) := by decide +kernel
theorem dX4_dayOf_1 : decode cX4_dayOf 1 = .ok (.ifCond .lt 21, 3) := by decide +kernel
theorem dX4_dayOf_4 : decode cX4_dayOf 4 = .ok (.iload_n 1, 1) := by decide +kernel
theorem dX4_dayOf_5 : decode cX4_dayOf 5 = .ok (.aload_n 0, 1) := by decide +kernel
theorem dX4_dayOf_6 : decode cX4_dayOf 6 = .ok (.getfield 9, 3) := by decide +kernel
theorem dX4_dayOf_9 : decode cX4_dayOf 9 = .ok (.arraylength, 1) := by decide +kernel
theorem dX4_dayOf_10 : decode cX4_dayOf 10 = .ok (.if_icmp .ge 12, 3) := by decide +kernel
theorem dX4_dayOf_13 : decode cX4_dayOf 13 = .ok (.aload_n 0, 1) := by decide +kernel
theorem dX4_dayOf_14 : decode cX4_dayOf 14 = .ok (.getfield 9, 3) := by decide +kernel
theorem dX4_dayOf_17 : decode cX4_dayOf 17 = .ok (.iload_n 1, 1) := by decide +kernel
theorem dX4_dayOf_18 : decode cX4_dayOf 18 = .ok (.iaload, 1) := by decide +kernel
theorem dX4_dayOf_19 : decode cX4_dayOf 19 = .ok (.goto 4, 3) := by decide +kernel
theorem dX4_dayOf_22 : decode cX4_dayOf 22 = .ok (.iconst 0, 1) := by decide +kernel
theorem dX4_dayOf_23 : decode cX4_dayOf 23 = .ok (.ireturn, 1) := by decide +kernel
theorem dX4_isSo_0 : decode cX4_isSo 0 = .ok (.iload_n 1, 1) := by decide +kernel
theorem dX4_isSo_1 : decode cX4_isSo 1 = .ok (.ifCond .lt 44, 3) := by decide +kernel
theorem dX4_isSo_4 : decode cX4_isSo 4 = .ok (.iload_n 1, 1) := by decide +kernel
theorem dX4_isSo_5 : decode cX4_isSo 5 = .ok (.aload_n 0, 1) := by decide +kernel
theorem dX4_isSo_6 : decode cX4_isSo 6 = .ok (.getfield 15, 3) := by decide +kernel
theorem dX4_isSo_9 : decode cX4_isSo 9 = .ok (.arraylength, 1) := by decide +kernel
theorem dX4_isSo_10 : decode cX4_isSo 10 = .ok (.if_icmp .ge 35, 3) := by decide +kernel
theorem dX4_isSo_13 : decode cX4_isSo 13 = .ok (.iload_n 1, 1) := by decide +kernel
theorem dX4_isSo_14 : decode cX4_isSo 14 = .ok (.aload_n 0, 1) := by decide +kernel
theorem dX4_isSo_15 : decode cX4_isSo 15 = .ok (.getfield 18, 3) := by decide +kernel
theorem dX4_isSo_18 : decode cX4_isSo 18 = .ok (.arraylength, 1) := by decide +kernel
theorem dX4_isSo_19 : decode cX4_isSo 19 = .ok (.if_icmp .ge 26, 3) := by decide +kernel
theorem dX4_isSo_22 : decode cX4_isSo 22 = .ok (.iload_n 2, 1) := by decide +kernel
theorem dX4_isSo_23 : decode cX4_isSo 23 = .ok (.aload_n 0, 1) := by decide +kernel
theorem dX4_isSo_24 : decode cX4_isSo 24 = .ok (.getfield 15, 3) := by decide +kernel
theorem dX4_isSo_27 : decode cX4_isSo 27 = .ok (.iload_n 1, 1) := by decide +kernel
theorem dX4_isSo_28 : decode cX4_isSo 28 = .ok (.iaload, 1) := by decide +kernel
theorem dX4_isSo_29 : decode cX4_isSo 29 = .ok (.ishr, 1) := by decide +kernel
theorem dX4_isSo_30 : decode cX4_isSo 30 = .ok (.iconst 1, 1) := by decide +kernel
theorem dX4_isSo_31 : decode cX4_isSo 31 = .ok (.iand, 1) := by decide +kernel
theorem dX4_isSo_32 : decode cX4_isSo 32 = .ok (.aload_n 0, 1) := by decide +kernel
theorem dX4_isSo_33 : decode cX4_isSo 33 = .ok (.getfield 18, 3) := by decide +kernel
theorem dX4_isSo_36 : decode cX4_isSo 36 = .ok (.iload_n 1, 1) := by decide +kernel
theorem dX4_isSo_37 : decode cX4_isSo 37 = .ok (.iaload, 1) := by decide +kernel
theorem dX4_isSo_38 : decode cX4_isSo 38 = .ok (.if_icmp .ne 7, 3) := by decide +kernel
theorem dX4_isSo_41 : decode cX4_isSo 41 = .ok (.iconst 1, 1) := by decide +kernel
theorem dX4_isSo_42 : decode cX4_isSo 42 = .ok (.goto 4, 3) := by decide +kernel
theorem dX4_isSo_45 : decode cX4_isSo 45 = .ok (.iconst 0, 1) := by decide +kernel
theorem dX4_isSo_46 : decode cX4_isSo 46 = .ok (.ireturn, 1) := by decide +kernel
theorem dX5_init_0 : decode cX5_init 0 = .ok (.aload_n 0, 1) := by decide +kernel
theorem dX5_init_1 : decode cX5_init 1 = .ok (.invokespecial 3, 3) := by decide +kernel
theorem dX5_init_4 : decode cX5_init 4 = .ok (.aload_n 0, 1) := by decide +kernel
theorem dX5_init_5 : decode cX5_init 5 = .ok (.bipush 10, 2) := by decide +kernel
theorem dX5_init_7 : decode cX5_init 7 = .ok (.newarray .int, 2) := by decide +kernel
theorem dX5_init_9 : decode cX5_init 9 = .ok (.putfield 9, 3) := by decide +kernel
theorem dX5_init_12 : decode cX5_init 12 = .ok (.aload_n 0, 1) := by decide +kernel
theorem dX5_init_13 : decode cX5_init 13 = .ok (.bipush 10, 2) := by decide +kernel
theorem dX5_init_15 : decode cX5_init 15 = .ok (.newarray .int, 2) := by decide +kernel
theorem dX5_init_17 : decode cX5_init 17 = .ok (.putfield 15, 3) := by decide +kernel
theorem dX5_init_20 : decode cX5_init 20 = .ok (.aload_n 0, 1) := by decide +kernel
theorem dX5_init_21 : decode cX5_init 21 = .ok (.bipush 8, 2) := by decide +kernel
theorem dX5_init_23 : decode cX5_init 23 = .ok (.newarray .int, 2) := by decide +kernel
theorem dX5_init_25 : decode cX5_init 25 = .ok (.putfield 18, 3) := by decide +kernel
theorem dX5_init_28 : decode cX5_init 28 = .ok (.aload_n 0, 1) := by decide +kernel
theorem dX5_init_29 : decode cX5_init 29 = .ok (.iconst 0, 1) := by decide +kernel
theorem dX5_init_30 : decode cX5_init 30 = .ok (.putfield 21, 3) := by decide +kernel
theorem dX5_init_33 : decode cX5_init 33 = .ok (.aload_n 0, 1) := by decide +kernel
theorem dX5_init_34 : decode cX5_init 34 = .ok (.iconst 0, 1) := by decide +kernel
theorem dX5_init_35 : decode cX5_init 35 = .ok (.putfield 25, 3) := by decide +kernel
theorem dX5_init_38 : decode cX5_init 38 = .ok (.aload_n 0, 1) := by decide +kernel
theorem dX5_init_39 : decode cX5_init 39 = .ok (.bipush 20, 2) := by decide +kernel
theorem dX5_init_41 : decode cX5_init 41 = .ok (.putfield 28, 3) := by decide +kernel
theorem dX5_init_44 : decode cX5_init 44 = .ok (.aload_n 0, 1) := by decide +kernel
theorem dX5_init_45 : decode cX5_init 45 = .ok (.iconst 0, 1) := by decide +kernel
theorem dX5_init_46 : decode cX5_init 46 = .ok (.putfield 31, 3) := by decide +kernel
theorem dX5_init_49 : decode cX5_init 49 = .ok (.aload_n 0, 1) := by decide +kernel
theorem dX5_init_50 : decode cX5_init 50 = .ok (.iconst 0, 1) := by decide +kernel
theorem dX5_init_51 : decode cX5_init 51 = .ok (.putfield 34, 3) := by decide +kernel
theorem dX5_init_54 : decode cX5_init 54 = .ok (.aload_n 0, 1) := by decide +kernel
theorem dX5_init_55 : decode cX5_init 55 = .ok (.iconst 0, 1) := by decide +kernel
theorem dX5_init_56 : decode cX5_init 56 = .ok (.putfield 37, 3) := by decide +kernel
theorem dX5_init_59 : decode cX5_init 59 = .ok (.aload_n 0, 1) := by decide +kernel
theorem dX5_init_60 : decode cX5_init 60 = .ok (.new 40, 3) := by decide +kernel
theorem dX5_init_63 : decode cX5_init 63 = .ok (.dup, 1) := by decide +kernel
theorem dX5_init_64 : decode cX5_init 64 = .ok (.invokespecial 42, 3) := by decide +kernel
theorem dX5_init_67 : decode cX5_init 67 = .ok (.putfield 43, 3) := by decide +kernel
theorem dX5_init_70 : decode cX5_init 70 = .ok (.aload_n 0, 1) := by decide +kernel
theorem dX5_init_71 : decode cX5_init 71 = .ok (.new 40, 3) := by decide +kernel
theorem dX5_init_74 : decode cX5_init 74 = .ok (.dup, 1) := by decide +kernel
theorem dX5_init_75 : decode cX5_init 75 = .ok (.invokespecial 42, 3) := by decide +kernel
theorem dX5_init_78 : decode cX5_init 78 = .ok (.putfield 47, 3) := by decide +kernel
theorem dX5_init_81 : decode cX5_init 81 = .ok (.aload_n 0, 1) := by decide +kernel
theorem dX5_init_82 : decode cX5_init 82 = .ok (.new 50, 3) := by decide +kernel
theorem dX5_init_85 : decode cX5_init 85 = .ok (.dup, 1) := by decide +kernel
theorem dX5_init_86 : decode cX5_init 86 = .ok (.invokespecial 52, 3) := by decide +kernel
theorem dX5_init_89 : decode cX5_init 89 = .ok (.putfield 53, 3) := by decide +kernel
theorem dX5_init_92 : decode cX5_init 92 = .ok (.return_, 1) := by decide +kernel
theorem dX5_clear_0 : decode cX5_clear 0 = .ok (.aload_n 0, 1) := by decide +kernel
theorem dX5_clear_1 : decode cX5_clear 1 = .ok (.iconst 0, 1) := by decide +kernel
theorem dX5_clear_2 : decode cX5_clear 2 = .ok (.putfield 21, 3) := by decide +kernel
theorem dX5_clear_5 : decode cX5_clear 5 = .ok (.aload_n 0, 1) := by decide +kernel
theorem dX5_clear_6 : decode cX5_clear 6 = .ok (.iconst 0, 1) := by decide +kernel
theorem dX5_clear_7 : decode cX5_clear 7 = .ok (.putfield 25, 3) := by decide +kernel
theorem dX5_clear_10 : decode cX5_clear 10 = .ok (.aload_n 0, 1) := by decide +kernel
theorem dX5_clear_11 : decode cX5_clear 11 = .ok (.bipush 20, 2) := by decide +kernel
theorem dX5_clear_13 : decode cX5_clear 13 = .ok (.putfield 28, 3) := by decide +kernel
theorem dX5_clear_16 : decode cX5_clear 16 = .ok (.aload_n 0, 1) := by decide +kernel
theorem dX5_clear_17 : decode cX5_clear 17 = .ok (.iconst 0, 1) := by decide +kernel
theorem dX5_clear_18 : decode cX5_clear 18 = .ok (.putfield 31, 3) := by decide +kernel
theorem dX5_clear_21 : decode cX5_clear 21 = .ok (.aload_n 0, 1) := by decide +kernel
theorem dX5_clear_22 : decode cX5_clear 22 = .ok (.iconst 0, 1) := by decide +kernel
theorem dX5_clear_23 : decode cX5_clear 23 = .ok (.putfield 34, 3) := by decide +kernel
theorem dX5_clear_26 : decode cX5_clear 26 = .ok (.aload_n 0, 1) := by decide +kernel
theorem dX5_clear_27 : decode cX5_clear 27 = .ok (.iconst 0, 1) := by decide +kernel
theorem dX5_clear_28 : decode cX5_clear 28 = .ok (.putfield 37, 3) := by decide +kernel
theorem dX5_clear_31 : decode cX5_clear 31 = .ok (.aload_n 0, 1) := by decide +kernel
theorem dX5_clear_32 : decode cX5_clear 32 = .ok (.getfield 43, 3) := by decide +kernel
theorem dX5_clear_35 : decode cX5_clear 35 = .ok (.invokevirtual 57, 3) := by decide +kernel
theorem dX5_clear_38 : decode cX5_clear 38 = .ok (.aload_n 0, 1) := by decide +kernel
theorem dX5_clear_39 : decode cX5_clear 39 = .ok (.getfield 47, 3) := by decide +kernel
theorem dX5_clear_42 : decode cX5_clear 42 = .ok (.invokevirtual 57, 3) := by decide +kernel
theorem dX5_clear_45 : decode cX5_clear 45 = .ok (.aload_n 0, 1) := by decide +kernel
theorem dX5_clear_46 : decode cX5_clear 46 = .ok (.getfield 53, 3) := by decide +kernel
theorem dX5_clear_49 : decode cX5_clear 49 = .ok (.invokevirtual 60, 3) := by decide +kernel
theorem dX5_clear_52 : decode cX5_clear 52 = .ok (.return_, 1) := by decide +kernel
theorem dX5_addRoot_0 : decode cX5_addRoot 0 = .ok (.aload_n 0, 1) := by decide +kernel
theorem dX5_addRoot_1 : decode cX5_addRoot 1 = .ok (.getfield 21, 3) := by decide +kernel
theorem dX5_addRoot_4 : decode cX5_addRoot 4 = .ok (.ifCond .lt 50, 3) := by decide +kernel
theorem dX5_addRoot_7 : decode cX5_addRoot 7 = .ok (.aload_n 0, 1) := by decide +kernel
theorem dX5_addRoot_8 : decode cX5_addRoot 8 = .ok (.getfield 21, 3) := by decide +kernel
theorem dX5_addRoot_11 : decode cX5_addRoot 11 = .ok (.aload_n 0, 1) := by decide +kernel
theorem dX5_addRoot_12 : decode cX5_addRoot 12 = .ok (.getfield 9, 3) := by decide +kernel
theorem dX5_addRoot_15 : decode cX5_addRoot 15 = .ok (.arraylength, 1) := by decide +kernel
theorem dX5_addRoot_16 : decode cX5_addRoot 16 = .ok (.if_icmp .ge 38, 3) := by decide +kernel
theorem dX5_addRoot_19 : decode cX5_addRoot 19 = .ok (.aload_n 0, 1) := by decide +kernel
theorem dX5_addRoot_20 : decode cX5_addRoot 20 = .ok (.getfield 9, 3) := by decide +kernel
theorem dX5_addRoot_23 : decode cX5_addRoot 23 = .ok (.aload_n 0, 1) := by decide +kernel
theorem dX5_addRoot_24 : decode cX5_addRoot 24 = .ok (.getfield 21, 3) := by decide +kernel
theorem dX5_addRoot_27 : decode cX5_addRoot 27 = .ok (.iload_n 1, 1) := by decide +kernel
theorem dX5_addRoot_28 : decode cX5_addRoot 28 = .ok (.iastore, 1) := by decide +kernel
theorem dX5_addRoot_29 : decode cX5_addRoot 29 = .ok (.aload_n 0, 1) := by decide +kernel
theorem dX5_addRoot_30 : decode cX5_addRoot 30 = .ok (.getfield 53, 3) := by decide +kernel
theorem dX5_addRoot_33 : decode cX5_addRoot 33 = .ok (.aload_n 0, 1) := by decide +kernel
theorem dX5_addRoot_34 : decode cX5_addRoot 34 = .ok (.getfield 21, 3) := by decide +kernel
theorem dX5_addRoot_37 : decode cX5_addRoot 37 = .ok (.iload_n 2, 1) := by decide +kernel
theorem dX5_addRoot_38 : decode cX5_addRoot 38 = .ok (.iload_n 3, 1) := by decide +kernel
theorem dX5_addRoot_39 : decode cX5_addRoot 39 = .ok (.iload 4, 2) := by decide +kernel
theorem dX5_addRoot_41 : decode cX5_addRoot 41 = .ok (.invokevirtual 61, 3) := by decide +kernel
theorem dX5_addRoot_44 : decode cX5_addRoot 44 = .ok (.aload_n 0, 1) := by decide +kernel
theorem dX5_addRoot_45 : decode cX5_addRoot 45 = .ok (.dup, 1) := by decide +kernel
theorem dX5_addRoot_46 : decode cX5_addRoot 46 = .ok (.getfield 21, 3) := by decide +kernel
theorem dX5_addRoot_49 : decode cX5_addRoot 49 = .ok (.iconst 1, 1) := by decide +kernel
theorem dX5_addRoot_50 : decode cX5_addRoot 50 = .ok (.iadd, 1) := by decide +kernel
theorem dX5_addRoot_51 : decode cX5_addRoot 51 = .ok (.putfield 21, 3) := by decide +kernel
theorem dX5_addRoot_54 : decode cX5_addRoot 54 = .ok (.return_, 1) := by decide +kernel
theorem dX5_addWeather_0 : decode cX5_addWeather 0 = .ok (.aload_n 0, 1) := by decide +kernel
theorem dX5_addWeather_1 : decode cX5_addWeather 1 = .ok (.getfield 25, 3) := by decide +kernel
theorem dX5_addWeather_4 : decode cX5_addWeather 4 = .ok (.ifCond .lt 35, 3) := by decide +kernel
theorem dX5_addWeather_7 : decode cX5_addWeather 7 = .ok (.aload_n 0, 1) := by decide +kernel
theorem dX5_addWeather_8 : decode cX5_addWeather 8 = .ok (.getfield 25, 3) := by decide +kernel
theorem dX5_addWeather_11 : decode cX5_addWeather 11 = .ok (.aload_n 0, 1) := by decide +kernel
theorem dX5_addWeather_12 : decode cX5_addWeather 12 = .ok (.getfield 15, 3) := by decide +kernel
theorem dX5_addWeather_15 : decode cX5_addWeather 15 = .ok (.arraylength, 1) := by decide +kernel
theorem dX5_addWeather_16 : decode cX5_addWeather 16 = .ok (.if_icmp .ge 23, 3) := by decide +kernel
theorem dX5_addWeather_19 : decode cX5_addWeather 19 = .ok (.aload_n 0, 1) := by decide +kernel
theorem dX5_addWeather_20 : decode cX5_addWeather 20 = .ok (.getfield 15, 3) := by decide +kernel
theorem dX5_addWeather_23 : decode cX5_addWeather 23 = .ok (.aload_n 0, 1) := by decide +kernel
theorem dX5_addWeather_24 : decode cX5_addWeather 24 = .ok (.getfield 25, 3) := by decide +kernel
theorem dX5_addWeather_27 : decode cX5_addWeather 27 = .ok (.iload_n 1, 1) := by decide +kernel
theorem dX5_addWeather_28 : decode cX5_addWeather 28 = .ok (.iastore, 1) := by decide +kernel
theorem dX5_addWeather_29 : decode cX5_addWeather 29 = .ok (.aload_n 0, 1) := by decide +kernel
theorem dX5_addWeather_30 : decode cX5_addWeather 30 = .ok (.dup, 1) := by decide +kernel
theorem dX5_addWeather_31 : decode cX5_addWeather 31 = .ok (.getfield 25, 3) := by decide +kernel
theorem dX5_addWeather_34 : decode cX5_addWeather 34 = .ok (.iconst 1, 1) := by decide +kernel
theorem dX5_addWeather_35 : decode cX5_addWeather 35 = .ok (.iadd, 1) := by decide +kernel
theorem dX5_addWeather_36 : decode cX5_addWeather 36 = .ok (.putfield 25, 3) := by decide +kernel
theorem dX5_addWeather_39 : decode cX5_addWeather 39 = .ok (.return_, 1) := by decide +kernel
theorem dX5_addTuneNote_0 : decode cX5_addTuneNote 0 = .ok (.aload_n 0, 1) := by decide +kernel
theorem dX5_addTuneNote_1 : decode cX5_addTuneNote 1 = .ok (.getfield 31, 3) := by decide +kernel
theorem dX5_addTuneNote_4 : decode cX5_addTuneNote 4 = .ok (.ifCond .lt 47, 3) := by decide +kernel
theorem dX5_addTuneNote_7 : decode cX5_addTuneNote 7 = .ok (.aload_n 0, 1) := by decide +kernel
theorem dX5_addTuneNote_8 : decode cX5_addTuneNote 8 = .ok (.getfield 31, 3) := by decide +kernel
theorem dX5_addTuneNote_11 : decode cX5_addTuneNote 11 = .ok (.aload_n 0, 1) := by decide +kernel
theorem dX5_addTuneNote_12 : decode cX5_addTuneNote 12 = .ok (.getfield 18, 3) := by decide +kernel
theorem dX5_addTuneNote_15 : decode cX5_addTuneNote 15 = .ok (.arraylength, 1) := by decide +kernel
theorem dX5_addTuneNote_16 : decode cX5_addTuneNote 16 = .ok (.if_icmp .ge 35, 3) := by decide +kernel
theorem dX5_addTuneNote_19 : decode cX5_addTuneNote 19 = .ok (.aload_n 0, 1) := by decide +kernel
theorem dX5_addTuneNote_20 : decode cX5_addTuneNote 20 = .ok (.getfield 18, 3) := by decide +kernel
theorem dX5_addTuneNote_23 : decode cX5_addTuneNote 23 = .ok (.aload_n 0, 1) := by decide +kernel
theorem dX5_addTuneNote_24 : decode cX5_addTuneNote 24 = .ok (.getfield 31, 3) := by decide +kernel
theorem dX5_addTuneNote_27 : decode cX5_addTuneNote 27 = .ok (.iload_n 1, 1) := by decide +kernel
theorem dX5_addTuneNote_28 : decode cX5_addTuneNote 28 = .ok (.iastore, 1) := by decide +kernel
theorem dX5_addTuneNote_29 : decode cX5_addTuneNote 29 = .ok (.aload_n 0, 1) := by decide +kernel
theorem dX5_addTuneNote_30 : decode cX5_addTuneNote 30 = .ok (.dup, 1) := by decide +kernel
theorem dX5_addTuneNote_31 : decode cX5_addTuneNote 31 = .ok (.getfield 34, 3) := by decide +kernel
theorem dX5_addTuneNote_34 : decode cX5_addTuneNote 34 = .ok (.iconst 1, 1) := by decide +kernel
theorem dX5_addTuneNote_35 : decode cX5_addTuneNote 35 = .ok (.iload_n 1, 1) := by decide +kernel
theorem dX5_addTuneNote_36 : decode cX5_addTuneNote 36 = .ok (.ishl, 1) := by decide +kernel
theorem dX5_addTuneNote_37 : decode cX5_addTuneNote 37 = .ok (.ior, 1) := by decide +kernel
theorem dX5_addTuneNote_38 : decode cX5_addTuneNote 38 = .ok (.putfield 34, 3) := by decide +kernel
theorem dX5_addTuneNote_41 : decode cX5_addTuneNote 41 = .ok (.aload_n 0, 1) := by decide +kernel
theorem dX5_addTuneNote_42 : decode cX5_addTuneNote 42 = .ok (.dup, 1) := by decide +kernel
theorem dX5_addTuneNote_43 : decode cX5_addTuneNote 43 = .ok (.getfield 31, 3) := by decide +kernel
theorem dX5_addTuneNote_46 : decode cX5_addTuneNote 46 = .ok (.iconst 1, 1) := by decide +kernel
theorem dX5_addTuneNote_47 : decode cX5_addTuneNote 47 = .ok (.iadd, 1) := by decide +kernel
theorem dX5_addTuneNote_48 : decode cX5_addTuneNote 48 = .ok (.putfield 31, 3) := by decide +kernel
theorem dX5_addTuneNote_51 : decode cX5_addTuneNote 51 = .ok (.return_, 1) := by decide +kernel
theorem dX5_addChange_0 : decode cX5_addChange 0 = .ok (.aload_n 0, 1) := by decide +kernel
theorem dX5_addChange_1 : decode cX5_addChange 1 = .ok (.getfield 37, 3) := by decide +kernel
theorem dX5_addChange_4 : decode cX5_addChange 4 = .ok (.bipush 12, 2) := by decide +kernel
theorem dX5_addChange_6 : decode cX5_addChange 6 = .ok (.if_icmp .ge 25, 3) := by decide +kernel
theorem dX5_addChange_9 : decode cX5_addChange 9 = .ok (.aload_n 0, 1) := by decide +kernel
theorem dX5_addChange_10 : decode cX5_addChange 10 = .ok (.getfield 53, 3) := by decide +kernel
theorem dX5_addChange_13 : decode cX5_addChange 13 = .ok (.aload_n 0, 1) := by decide +kernel
theorem dX5_addChange_14 : decode cX5_addChange 14 = .ok (.getfield 37, 3) := by decide +kernel
theorem dX5_addChange_17 : decode cX5_addChange 17 = .ok (.iload_n 1, 1) := by decide +kernel
theorem dX5_addChange_18 : decode cX5_addChange 18 = .ok (.invokevirtual 65, 3) := by decide +kernel
theorem dX5_addChange_21 : decode cX5_addChange 21 = .ok (.aload_n 0, 1) := by decide +kernel
theorem dX5_addChange_22 : decode cX5_addChange 22 = .ok (.dup, 1) := by decide +kernel
theorem dX5_addChange_23 : decode cX5_addChange 23 = .ok (.getfield 37, 3) := by decide +kernel
theorem dX5_addChange_26 : decode cX5_addChange 26 = .ok (.iconst 1, 1) := by decide +kernel
theorem dX5_addChange_27 : decode cX5_addChange 27 = .ok (.iadd, 1) := by decide +kernel
theorem dX5_addChange_28 : decode cX5_addChange 28 = .ok (.putfield 37, 3) := by decide +kernel
theorem dX5_addChange_31 : decode cX5_addChange 31 = .ok (.return_, 1) := by decide +kernel
theorem dX5_kindOf_0 : decode cX5_kindOf 0 = .ok (.iload_n 1, 1) := by decide +kernel
theorem dX5_kindOf_1 : decode cX5_kindOf 1 = .ok (.ifCond .lt 21, 3) := by decide +kernel
theorem dX5_kindOf_4 : decode cX5_kindOf 4 = .ok (.iload_n 1, 1) := by decide +kernel
theorem dX5_kindOf_5 : decode cX5_kindOf 5 = .ok (.aload_n 0, 1) := by decide +kernel
theorem dX5_kindOf_6 : decode cX5_kindOf 6 = .ok (.getfield 9, 3) := by decide +kernel
theorem dX5_kindOf_9 : decode cX5_kindOf 9 = .ok (.arraylength, 1) := by decide +kernel
theorem dX5_kindOf_10 : decode cX5_kindOf 10 = .ok (.if_icmp .ge 12, 3) := by decide +kernel
theorem dX5_kindOf_13 : decode cX5_kindOf 13 = .ok (.aload_n 0, 1) := by decide +kernel
theorem dX5_kindOf_14 : decode cX5_kindOf 14 = .ok (.getfield 9, 3) := by decide +kernel
theorem dX5_kindOf_17 : decode cX5_kindOf 17 = .ok (.iload_n 1, 1) := by decide +kernel
theorem dX5_kindOf_18 : decode cX5_kindOf 18 = .ok (.iaload, 1) := by decide +kernel
theorem dX5_kindOf_19 : decode cX5_kindOf 19 = .ok (.goto 4, 3) := by decide +kernel
theorem dX5_kindOf_22 : decode cX5_kindOf 22 = .ok (.iconst 0, 1) := by decide +kernel
theorem dX5_kindOf_23 : decode cX5_kindOf 23 = .ok (.ireturn, 1) := by decide +kernel
theorem dX5_tuneNote_0 : decode cX5_tuneNote 0 = .ok (.iload_n 1, 1) := by decide +kernel
theorem dX5_tuneNote_1 : decode cX5_tuneNote 1 = .ok (.ifCond .lt 21, 3) := by decide +kernel
theorem dX5_tuneNote_4 : decode cX5_tuneNote 4 = .ok (.iload_n 1, 1) := by decide +kernel
theorem dX5_tuneNote_5 : decode cX5_tuneNote 5 = .ok (.aload_n 0, 1) := by decide +kernel
theorem dX5_tuneNote_6 : decode cX5_tuneNote 6 = .ok (.getfield 18, 3) := by decide +kernel
theorem dX5_tuneNote_9 : decode cX5_tuneNote 9 = .ok (.arraylength, 1) := by decide +kernel
theorem dX5_tuneNote_10 : decode cX5_tuneNote 10 = .ok (.if_icmp .ge 12, 3) := by decide +kernel
theorem dX5_tuneNote_13 : decode cX5_tuneNote 13 = .ok (.aload_n 0, 1) := by decide +kernel
theorem dX5_tuneNote_14 : decode cX5_tuneNote 14 = .ok (.getfield 18, 3) := by decide +kernel
theorem dX5_tuneNote_17 : decode cX5_tuneNote 17 = .ok (.iload_n 1, 1) := by decide +kernel
theorem dX5_tuneNote_18 : decode cX5_tuneNote 18 = .ok (.iaload, 1) := by decide +kernel
theorem dX5_tuneNote_19 : decode cX5_tuneNote 19 = .ok (.goto 4, 3) := by decide +kernel
theorem dX5_tuneNote_22 : decode cX5_tuneNote 22 = .ok (.iconst 0, 1) := by decide +kernel
theorem dX5_tuneNote_23 : decode cX5_tuneNote 23 = .ok (.ireturn, 1) := by decide +kernel
theorem dX5_weatherOn_0 : decode cX5_weatherOn 0 = .ok (.aload_n 0, 1) := by decide +kernel
theorem dX5_weatherOn_1 : decode cX5_weatherOn 1 = .ok (.getfield 25, 3) := by decide +kernel
theorem dX5_weatherOn_4 : decode cX5_weatherOn 4 = .ok (.ifCond .le 7, 3) := by decide +kernel
theorem dX5_weatherOn_7 : decode cX5_weatherOn 7 = .ok (.iload_n 1, 1) := by decide +kernel
theorem dX5_weatherOn_8 : decode cX5_weatherOn 8 = .ok (.ifCond .ge 5, 3) := by decide +kernel
theorem dX5_weatherOn_11 : decode cX5_weatherOn 11 = .ok (.iconst 4, 1) := by decide +kernel
theorem dX5_weatherOn_12 : decode cX5_weatherOn 12 = .ok (.ireturn, 1) := by decide +kernel
theorem dX5_weatherOn_13 : decode cX5_weatherOn 13 = .ok (.iload_n 1, 1) := by decide +kernel
theorem dX5_weatherOn_14 : decode cX5_weatherOn 14 = .ok (.aload_n 0, 1) := by decide +kernel
theorem dX5_weatherOn_15 : decode cX5_weatherOn 15 = .ok (.getfield 25, 3) := by decide +kernel
theorem dX5_weatherOn_18 : decode cX5_weatherOn 18 = .ok (.irem, 1) := by decide +kernel
theorem dX5_weatherOn_19 : decode cX5_weatherOn 19 = .ok (.istore_n 2, 1) := by decide +kernel
theorem dX5_weatherOn_20 : decode cX5_weatherOn 20 = .ok (.iload_n 2, 1) := by decide +kernel
theorem dX5_weatherOn_21 : decode cX5_weatherOn 21 = .ok (.aload_n 0, 1) := by decide +kernel
theorem dX5_weatherOn_22 : decode cX5_weatherOn 22 = .ok (.getfield 15, 3) := by decide +kernel
theorem dX5_weatherOn_25 : decode cX5_weatherOn 25 = .ok (.arraylength, 1) := by decide +kernel
theorem dX5_weatherOn_26 : decode cX5_weatherOn 26 = .ok (.if_icmp .ge 12, 3) := by decide +kernel
theorem dX5_weatherOn_29 : decode cX5_weatherOn 29 = .ok (.aload_n 0, 1) := by decide +kernel
theorem dX5_weatherOn_30 : decode cX5_weatherOn 30 = .ok (.getfield 15, 3) := by decide +kernel
theorem dX5_weatherOn_33 : decode cX5_weatherOn 33 = .ok (.iload_n 2, 1) := by decide +kernel
theorem dX5_weatherOn_34 : decode cX5_weatherOn 34 = .ok (.iaload, 1) := by decide +kernel
theorem dX5_weatherOn_35 : decode cX5_weatherOn 35 = .ok (.goto 4, 3) := by decide +kernel
theorem dX5_weatherOn_38 : decode cX5_weatherOn 38 = .ok (.iconst 4, 1) := by decide +kernel
theorem dX5_weatherOn_39 : decode cX5_weatherOn 39 = .ok (.ireturn, 1) := by decide +kernel
theorem dX5_isTuneIn_0 : decode cX5_isTuneIn 0 = .ok (.aload_n 0, 1) := by decide +kernel
theorem dX5_isTuneIn_1 : decode cX5_isTuneIn 1 = .ok (.getfield 34, 3) := by decide +kernel
theorem dX5_isTuneIn_4 : decode cX5_isTuneIn 4 = .ok (.iload_n 1, 1) := by decide +kernel
theorem dX5_isTuneIn_5 : decode cX5_isTuneIn 5 = .ok (.iconst (-1), 1) := by decide +kernel
theorem dX5_isTuneIn_6 : decode cX5_isTuneIn 6 = .ok (.ixor, 1) := by decide +kernel
theorem dX5_isTuneIn_7 : decode cX5_isTuneIn 7 = .ok (.iand, 1) := by decide +kernel
theorem dX5_isTuneIn_8 : decode cX5_isTuneIn 8 = .ok (.ifCond .ne 7, 3) := by decide +kernel
theorem dX5_isTuneIn_11 : decode cX5_isTuneIn 11 = .ok (.iconst 1, 1) := by decide +kernel
theorem dX5_isTuneIn_12 : decode cX5_isTuneIn 12 = .ok (.goto 4, 3) := by decide +kernel
theorem dX5_isTuneIn_15 : decode cX5_isTuneIn 15 = .ok (.iconst 0, 1) := by decide +kernel
theorem dX5_isTuneIn_16 : decode cX5_isTuneIn 16 = .ok (.ireturn, 1) := by decide +kernel
theorem dX5_nearnessOf_0 : decode cX5_nearnessOf 0 = .ok (.iconst 0, 1) := by decide +kernel
theorem dX5_nearnessOf_1 : decode cX5_nearnessOf 1 = .ok (.istore_n 2, 1) := by decide +kernel
theorem dX5_nearnessOf_2 : decode cX5_nearnessOf 2 = .ok (.iconst 0, 1) := by decide +kernel
theorem dX5_nearnessOf_3 : decode cX5_nearnessOf 3 = .ok (.istore_n 3, 1) := by decide +kernel
theorem dX5_nearnessOf_4 : decode cX5_nearnessOf 4 = .ok (.iload_n 3, 1) := by decide +kernel
theorem dX5_nearnessOf_5 : decode cX5_nearnessOf 5 = .ok (.aload_n 0, 1) := by decide +kernel
theorem dX5_nearnessOf_6 : decode cX5_nearnessOf 6 = .ok (.getfield 31, 3) := by decide +kernel
theorem dX5_nearnessOf_9 : decode cX5_nearnessOf 9 = .ok (.if_icmp .ge 26, 3) := by decide +kernel
theorem dX5_nearnessOf_12 : decode cX5_nearnessOf 12 = .ok (.iload_n 2, 1) := by decide +kernel
theorem dX5_nearnessOf_13 : decode cX5_nearnessOf 13 = .ok (.iconst 4, 1) := by decide +kernel
theorem dX5_nearnessOf_14 : decode cX5_nearnessOf 14 = .ok (.iload_n 1, 1) := by decide +kernel
theorem dX5_nearnessOf_15 : decode cX5_nearnessOf 15 = .ok (.aload_n 0, 1) := by decide +kernel
theorem dX5_nearnessOf_16 : decode cX5_nearnessOf 16 = .ok (.iload_n 3, 1) := by decide +kernel
theorem dX5_nearnessOf_17 : decode cX5_nearnessOf 17 = .ok (.invokevirtual 69, 3) := by decide +kernel
theorem dX5_nearnessOf_20 : decode cX5_nearnessOf 20 = .ok (.isub, 1) := by decide +kernel
theorem dX5_nearnessOf_21 : decode cX5_nearnessOf 21 = .ok (.invokestatic 73, 3) := by decide +kernel
theorem dX5_nearnessOf_24 : decode cX5_nearnessOf 24 = .ok (.isub, 1) := by decide +kernel
theorem dX5_nearnessOf_25 : decode cX5_nearnessOf 25 = .ok (.invokestatic 78, 3) := by decide +kernel
theorem dX5_nearnessOf_28 : decode cX5_nearnessOf 28 = .ok (.istore_n 2, 1) := by decide +kernel
theorem dX5_nearnessOf_29 : decode cX5_nearnessOf 29 = .ok (.iinc 3 1, 3) := by decide +kernel
theorem dX5_nearnessOf_32 : decode cX5_nearnessOf 32 = .ok (.goto (-28), 3) := by decide +kernel
theorem dX5_nearnessOf_35 : decode cX5_nearnessOf 35 = .ok (.iload_n 2, 1) := by decide +kernel
theorem dX5_nearnessOf_36 : decode cX5_nearnessOf 36 = .ok (.ireturn, 1) := by decide +kernel
theorem dX6_init_0 : decode cX6_init 0 = .ok (.aload_n 0, 1) := by decide +kernel
theorem dX6_init_1 : decode cX6_init 1 = .ok (.invokespecial 3, 3) := by decide +kernel
theorem dX6_init_4 : decode cX6_init 4 = .ok (.aload_n 0, 1) := by decide +kernel
theorem dX6_init_5 : decode cX6_init 5 = .ok (.sipush 700, 3) := by decide +kernel
theorem dX6_init_8 : decode cX6_init 8 = .ok (.newarray .byte, 2) := by decide +kernel
theorem dX6_init_10 : decode cX6_init 10 = .ok (.putfield 9, 3) := by decide +kernel
theorem dX6_init_13 : decode cX6_init 13 = .ok (.aload_n 0, 1) := by decide +kernel
theorem dX6_init_14 : decode cX6_init 14 = .ok (.iconst 0, 1) := by decide +kernel
theorem dX6_init_15 : decode cX6_init 15 = .ok (.putfield 15, 3) := by decide +kernel
theorem dX6_init_18 : decode cX6_init 18 = .ok (.aload_n 0, 1) := by decide +kernel
theorem dX6_init_19 : decode cX6_init 19 = .ok (.iconst 0, 1) := by decide +kernel
theorem dX6_init_20 : decode cX6_init 20 = .ok (.putfield 19, 3) := by decide +kernel
theorem dX6_init_23 : decode cX6_init 23 = .ok (.aload_n 0, 1) := by decide +kernel
theorem dX6_init_24 : decode cX6_init 24 = .ok (.iconst 0, 1) := by decide +kernel
theorem dX6_init_25 : decode cX6_init 25 = .ok (.putfield 22, 3) := by decide +kernel
theorem dX6_init_28 : decode cX6_init 28 = .ok (.aload_n 0, 1) := by decide +kernel
theorem dX6_init_29 : decode cX6_init 29 = .ok (.iconst 0, 1) := by decide +kernel
theorem dX6_init_30 : decode cX6_init 30 = .ok (.putfield 25, 3) := by decide +kernel
theorem dX6_init_33 : decode cX6_init 33 = .ok (.aload_n 0, 1) := by decide +kernel
theorem dX6_init_34 : decode cX6_init 34 = .ok (.iconst 0, 1) := by decide +kernel
theorem dX6_init_35 : decode cX6_init 35 = .ok (.putfield 28, 3) := by decide +kernel
theorem dX6_init_38 : decode cX6_init 38 = .ok (.aload_n 0, 1) := by decide +kernel
theorem dX6_init_39 : decode cX6_init 39 = .ok (.iconst 0, 1) := by decide +kernel
theorem dX6_init_40 : decode cX6_init 40 = .ok (.putfield 31, 3) := by decide +kernel
theorem dX6_init_43 : decode cX6_init 43 = .ok (.aload_n 0, 1) := by decide +kernel
theorem dX6_init_44 : decode cX6_init 44 = .ok (.iconst 0, 1) := by decide +kernel
theorem dX6_init_45 : decode cX6_init 45 = .ok (.putfield 34, 3) := by decide +kernel
theorem dX6_init_48 : decode cX6_init 48 = .ok (.aload_n 0, 1) := by decide +kernel
theorem dX6_init_49 : decode cX6_init 49 = .ok (.iconst 0, 1) := by decide +kernel
theorem dX6_init_50 : decode cX6_init 50 = .ok (.putfield 37, 3) := by decide +kernel
theorem dX6_init_53 : decode cX6_init 53 = .ok (.aload_n 0, 1) := by decide +kernel
theorem dX6_init_54 : decode cX6_init 54 = .ok (.iconst 0, 1) := by decide +kernel
theorem dX6_init_55 : decode cX6_init 55 = .ok (.putfield 40, 3) := by decide +kernel
theorem dX6_init_58 : decode cX6_init 58 = .ok (.aload_n 0, 1) := by decide +kernel
theorem dX6_init_59 : decode cX6_init 59 = .ok (.iconst 0, 1) := by decide +kernel
theorem dX6_init_60 : decode cX6_init 60 = .ok (.putfield 43, 3) := by decide +kernel
theorem dX6_init_63 : decode cX6_init 63 = .ok (.aload_n 0, 1) := by decide +kernel
theorem dX6_init_64 : decode cX6_init 64 = .ok (.new 46, 3) := by decide +kernel
theorem dX6_init_67 : decode cX6_init 67 = .ok (.dup, 1) := by decide +kernel
theorem dX6_init_68 : decode cX6_init 68 = .ok (.invokespecial 48, 3) := by decide +kernel
theorem dX6_init_71 : decode cX6_init 71 = .ok (.putfield 49, 3) := by decide +kernel
theorem dX6_init_74 : decode cX6_init 74 = .ok (.aload_n 0, 1) := by decide +kernel
theorem dX6_init_75 : decode cX6_init 75 = .ok (.aload_n 0, 1) := by decide +kernel
theorem dX6_init_76 : decode cX6_init 76 = .ok (.getfield 49, 3) := by decide +kernel
theorem dX6_init_79 : decode cX6_init 79 = .ok (.getfield 53, 3) := by decide +kernel
theorem dX6_init_82 : decode cX6_init 82 = .ok (.putfield 57, 3) := by decide +kernel
theorem dX6_init_85 : decode cX6_init 85 = .ok (.aload_n 0, 1) := by decide +kernel
theorem dX6_init_86 : decode cX6_init 86 = .ok (.iconst 1, 1) := by decide +kernel
theorem dX6_init_87 : decode cX6_init 87 = .ok (.putfield 60, 3) := by decide +kernel
theorem dX6_init_90 : decode cX6_init 90 = .ok (.aload_n 0, 1) := by decide +kernel
theorem dX6_init_91 : decode cX6_init 91 = .ok (.iconst 0, 1) := by decide +kernel
theorem dX6_init_92 : decode cX6_init 92 = .ok (.putfield 63, 3) := by decide +kernel
theorem dX6_init_95 : decode cX6_init 95 = .ok (.aload_n 0, 1) := by decide +kernel
theorem dX6_init_96 : decode cX6_init 96 = .ok (.iconst 0, 1) := by decide +kernel
theorem dX6_init_97 : decode cX6_init 97 = .ok (.putfield 66, 3) := by decide +kernel
theorem dX6_init_100 : decode cX6_init 100 = .ok (.aload_n 0, 1) := by decide +kernel
theorem dX6_init_101 : decode cX6_init 101 = .ok (.iconst 0, 1) := by decide +kernel
theorem dX6_init_102 : decode cX6_init 102 = .ok (.putfield 69, 3) := by decide +kernel
theorem dX6_init_105 : decode cX6_init 105 = .ok (.return_, 1) := by decide +kernel
theorem dX6_taped_0 : decode cX6_taped 0 = .ok (.aload_n 0, 1) := by decide +kernel
theorem dX6_taped_1 : decode cX6_taped 1 = .ok (.getfield 15, 3) := by decide +kernel
theorem dX6_taped_4 : decode cX6_taped 4 = .ok (.ireturn, 1) := by decide +kernel
theorem dX6_putBytes_0 : decode cX6_putBytes 0 = .ok (.bipush 24, 2) := by decide +kernel
theorem dX6_putBytes_2 : decode cX6_putBytes 2 = .ok (.istore_n 2, 1) := by decide +kernel
theorem dX6_putBytes_3 : decode cX6_putBytes 3 = .ok (.iload_n 2, 1) := by decide +kernel
theorem dX6_putBytes_4 : decode cX6_putBytes 4 = .ok (.ifCond .lt 51, 3) := by decide +kernel
theorem dX6_putBytes_7 : decode cX6_putBytes 7 = .ok (.aload_n 0, 1) := by decide +kernel
theorem dX6_putBytes_8 : decode cX6_putBytes 8 = .ok (.getfield 15, 3) := by decide +kernel
theorem dX6_putBytes_11 : decode cX6_putBytes 11 = .ok (.ifCond .lt 38, 3) := by decide +kernel
theorem dX6_putBytes_14 : decode cX6_putBytes 14 = .ok (.aload_n 0, 1) := by decide +kernel
theorem dX6_putBytes_15 : decode cX6_putBytes 15 = .ok (.getfield 15, 3) := by decide +kernel
theorem dX6_putBytes_18 : decode cX6_putBytes 18 = .ok (.aload_n 0, 1) := by decide +kernel
theorem dX6_putBytes_19 : decode cX6_putBytes 19 = .ok (.getfield 9, 3) := by decide +kernel
theorem dX6_putBytes_22 : decode cX6_putBytes 22 = .ok (.arraylength, 1) := by decide +kernel
theorem dX6_putBytes_23 : decode cX6_putBytes 23 = .ok (.if_icmp .ge 26, 3) := by decide +kernel
theorem dX6_putBytes_26 : decode cX6_putBytes 26 = .ok (.aload_n 0, 1) := by decide +kernel
theorem dX6_putBytes_27 : decode cX6_putBytes 27 = .ok (.getfield 9, 3) := by decide +kernel
theorem dX6_putBytes_30 : decode cX6_putBytes 30 = .ok (.aload_n 0, 1) := by decide +kernel
theorem dX6_putBytes_31 : decode cX6_putBytes 31 = .ok (.getfield 15, 3) := by decide +kernel
theorem dX6_putBytes_34 : decode cX6_putBytes 34 = .ok (.iload_n 1, 1) := by decide +kernel
theorem dX6_putBytes_35 : decode cX6_putBytes 35 = .ok (.iload_n 2, 1) := by decide +kernel
theorem dX6_putBytes_36 : decode cX6_putBytes 36 = .ok (.iushr, 1) := by decide +kernel
theorem dX6_putBytes_37 : decode cX6_putBytes 37 = .ok (.i2b, 1) := by decide +kernel
theorem dX6_putBytes_38 : decode cX6_putBytes 38 = .ok (.bastore, 1) := by decide +kernel
theorem dX6_putBytes_39 : decode cX6_putBytes 39 = .ok (.aload_n 0, 1) := by decide +kernel
theorem dX6_putBytes_40 : decode cX6_putBytes 40 = .ok (.dup, 1) := by decide +kernel
theorem dX6_putBytes_41 : decode cX6_putBytes 41 = .ok (.getfield 15, 3) := by decide +kernel
theorem dX6_putBytes_44 : decode cX6_putBytes 44 = .ok (.iconst 1, 1) := by decide +kernel
theorem dX6_putBytes_45 : decode cX6_putBytes 45 = .ok (.iadd, 1) := by decide +kernel
theorem dX6_putBytes_46 : decode cX6_putBytes 46 = .ok (.putfield 15, 3) := by decide +kernel
theorem dX6_putBytes_49 : decode cX6_putBytes 49 = .ok (.iinc 2 (-8), 3) := by decide +kernel
theorem dX6_putBytes_52 : decode cX6_putBytes 52 = .ok (.goto (-49), 3) := by decide +kernel
theorem dX6_putBytes_55 : decode cX6_putBytes 55 = .ok (.return_, 1) := by decide +kernel
theorem dX6_readTower_0 : decode cX6_readTower 0 = .ok (.aload_n 0, 1) := by decide +kernel
theorem dX6_readTower_1 : decode cX6_readTower 1 = .ok (.iconst 0, 1) := by decide +kernel
theorem dX6_readTower_2 : decode cX6_readTower 2 = .ok (.putfield 15, 3) := by decide +kernel
theorem dX6_readTower_5 : decode cX6_readTower 5 = .ok (.aload_n 0, 1) := by decide +kernel
theorem dX6_readTower_6 : decode cX6_readTower 6 = .ok (.iload_n 1, 1) := by decide +kernel
theorem dX6_readTower_7 : decode cX6_readTower 7 = .ok (.putfield 19, 3) := by decide +kernel
theorem dX6_readTower_10 : decode cX6_readTower 10 = .ok (.aload_n 0, 1) := by decide +kernel
theorem dX6_readTower_11 : decode cX6_readTower 11 = .ok (.iconst 0, 1) := by decide +kernel
theorem dX6_readTower_12 : decode cX6_readTower 12 = .ok (.putfield 22, 3) := by decide +kernel
theorem dX6_readTower_15 : decode cX6_readTower 15 = .ok (.aload_n 0, 1) := by decide +kernel
theorem dX6_readTower_16 : decode cX6_readTower 16 = .ok (.iconst 0, 1) := by decide +kernel
theorem dX6_readTower_17 : decode cX6_readTower 17 = .ok (.putfield 40, 3) := by decide +kernel
theorem dX6_readTower_20 : decode cX6_readTower 20 = .ok (.aload_n 0, 1) := by decide +kernel
theorem dX6_readTower_21 : decode cX6_readTower 21 = .ok (.iconst 0, 1) := by decide +kernel
theorem dX6_readTower_22 : decode cX6_readTower 22 = .ok (.putfield 43, 3) := by decide +kernel
theorem dX6_readTower_25 : decode cX6_readTower 25 = .ok (.aload_n 0, 1) := by decide +kernel
theorem dX6_readTower_26 : decode cX6_readTower 26 = .ok (.getfield 49, 3) := by decide +kernel
theorem dX6_readTower_29 : decode cX6_readTower 29 = .ok (.invokevirtual 72, 3) := by decide +kernel
theorem dX6_readTower_32 : decode cX6_readTower 32 = .ok (.aload_n 0, 1) := by decide +kernel
theorem dX6_readTower_33 : decode cX6_readTower 33 = .ok (.invokevirtual 75, 3) := by decide +kernel
theorem dX6_readTower_36 : decode cX6_readTower 36 = .ok (.iconst 1, 1) := by decide +kernel
theorem dX6_readTower_37 : decode cX6_readTower 37 = .ok (.istore_n 2, 1) := by decide +kernel
theorem dX6_readTower_38 : decode cX6_readTower 38 = .ok (.iconst 0, 1) := by decide +kernel
theorem dX6_readTower_39 : decode cX6_readTower 39 = .ok (.istore_n 3, 1) := by decide +kernel
theorem dX6_readTower_40 : decode cX6_readTower 40 = .ok (.iload_n 3, 1) := by decide +kernel
theorem dX6_readTower_41 : decode cX6_readTower 41 = .ok (.sipush 700, 3) := by decide +kernel
theorem dX6_readTower_44 : decode cX6_readTower 44 = .ok (.if_icmp .ge 25, 3) := by decide +kernel
theorem dX6_readTower_47 : decode cX6_readTower 47 = .ok (.iload_n 2, 1) := by decide +kernel
theorem dX6_readTower_48 : decode cX6_readTower 48 = .ok (.ifCond .eq 21, 3) := by decide +kernel
theorem dX6_readTower_51 : decode cX6_readTower 51 = .ok (.aload_n 0, 1) := by decide +kernel
theorem dX6_readTower_52 : decode cX6_readTower 52 = .ok (.getfield 25, 3) := by decide +kernel
theorem dX6_readTower_55 : decode cX6_readTower 55 = .ok (.ifCond .eq 14, 3) := by decide +kernel
theorem dX6_readTower_58 : decode cX6_readTower 58 = .ok (.aload_n 0, 1) := by decide +kernel
theorem dX6_readTower_59 : decode cX6_readTower 59 = .ok (.invokevirtual 78, 3) := by decide +kernel
theorem dX6_readTower_62 : decode cX6_readTower 62 = .ok (.istore_n 2, 1) := by decide +kernel
theorem dX6_readTower_63 : decode cX6_readTower 63 = .ok (.iinc 3 1, 3) := by decide +kernel
theorem dX6_readTower_66 : decode cX6_readTower 66 = .ok (.goto (-26), 3) := by decide +kernel
theorem dX6_readTower_69 : decode cX6_readTower 69 = .ok (.aload_n 0, 1) := by decide +kernel
theorem dX6_readTower_70 : decode cX6_readTower 70 = .ok (.getfield 40, 3) := by decide +kernel
theorem dX6_readTower_73 : decode cX6_readTower 73 = .ok (.ireturn, 1) := by decide +kernel
theorem dX6_handOver_0 : decode cX6_handOver 0 = .ok (.aload_n 0, 1) := by decide +kernel
theorem dX6_handOver_1 : decode cX6_handOver 1 = .ok (.getfield 49, 3) := by decide +kernel
theorem dX6_handOver_4 : decode cX6_handOver 4 = .ok (.astore_n 2, 1) := by decide +kernel
theorem dX6_handOver_5 : decode cX6_handOver 5 = .ok (.aload_n 0, 1) := by decide +kernel
theorem dX6_handOver_6 : decode cX6_handOver 6 = .ok (.aload_n 1, 1) := by decide +kernel
theorem dX6_handOver_7 : decode cX6_handOver 7 = .ok (.putfield 49, 3) := by decide +kernel
theorem dX6_handOver_10 : decode cX6_handOver 10 = .ok (.aload_n 2, 1) := by decide +kernel
theorem dX6_handOver_11 : decode cX6_handOver 11 = .ok (.areturn, 1) := by decide +kernel
theorem dX6_faultPlace_0 : decode cX6_faultPlace 0 = .ok (.aload_n 0, 1) := by decide +kernel
theorem dX6_faultPlace_1 : decode cX6_faultPlace 1 = .ok (.getfield 28, 3) := by decide +kernel
theorem dX6_faultPlace_4 : decode cX6_faultPlace 4 = .ok (.ireturn, 1) := by decide +kernel
theorem dX6_refuse_0 : decode cX6_refuse 0 = .ok (.aload_n 0, 1) := by decide +kernel
theorem dX6_refuse_1 : decode cX6_refuse 1 = .ok (.iload_n 1, 1) := by decide +kernel
theorem dX6_refuse_2 : decode cX6_refuse 2 = .ok (.putfield 40, 3) := by decide +kernel
theorem dX6_refuse_5 : decode cX6_refuse 5 = .ok (.iconst 0, 1) := by decide +kernel
theorem dX6_refuse_6 : decode cX6_refuse 6 = .ok (.ireturn, 1) := by decide +kernel
theorem dX6_byteAt_0 : decode cX6_byteAt 0 = .ok (.iload_n 1, 1) := by decide +kernel
theorem dX6_byteAt_1 : decode cX6_byteAt 1 = .ok (.ifCond .lt 33, 3) := by decide +kernel
theorem dX6_byteAt_4 : decode cX6_byteAt 4 = .ok (.iload_n 1, 1) := by decide +kernel
theorem dX6_byteAt_5 : decode cX6_byteAt 5 = .ok (.aload_n 0, 1) := by decide +kernel
theorem dX6_byteAt_6 : decode cX6_byteAt 6 = .ok (.getfield 19, 3) := by decide +kernel
theorem dX6_byteAt_9 : decode cX6_byteAt 9 = .ok (.if_icmp .ge 25, 3) := by decide +kernel
theorem dX6_byteAt_12 : decode cX6_byteAt 12 = .ok (.iload_n 1, 1) := by decide +kernel
theorem dX6_byteAt_13 : decode cX6_byteAt 13 = .ok (.aload_n 0, 1) := by decide +kernel
theorem dX6_byteAt_14 : decode cX6_byteAt 14 = .ok (.getfield 9, 3) := by decide +kernel
theorem dX6_byteAt_17 : decode cX6_byteAt 17 = .ok (.arraylength, 1) := by decide +kernel
theorem dX6_byteAt_18 : decode cX6_byteAt 18 = .ok (.if_icmp .ge 16, 3) := by decide +kernel
theorem dX6_byteAt_21 : decode cX6_byteAt 21 = .ok (.aload_n 0, 1) := by decide +kernel
theorem dX6_byteAt_22 : decode cX6_byteAt 22 = .ok (.getfield 9, 3) := by decide +kernel
theorem dX6_byteAt_25 : decode cX6_byteAt 25 = .ok (.iload_n 1, 1) := by decide +kernel
theorem dX6_byteAt_26 : decode cX6_byteAt 26 = .ok (.baload, 1) := by decide +kernel
theorem dX6_byteAt_27 : decode cX6_byteAt 27 = .ok (.sipush 255, 3) := by decide +kernel
theorem dX6_byteAt_30 : decode cX6_byteAt 30 = .ok (.iand, 1) := by decide +kernel
theorem dX6_byteAt_31 : decode cX6_byteAt 31 = .ok (.goto 4, 3) := by decide +kernel
theorem dX6_byteAt_34 : decode cX6_byteAt 34 = .ok (.iconst 0, 1) := by decide +kernel
theorem dX6_byteAt_35 : decode cX6_byteAt 35 = .ok (.ireturn, 1) := by decide +kernel
theorem dX6_isBlank_0 : decode cX6_isBlank 0 = .ok (.iload_n 0, 1) := by decide +kernel
theorem dX6_isBlank_1 : decode cX6_isBlank 1 = .ok (.bipush 32, 2) := by decide +kernel
theorem dX6_isBlank_3 : decode cX6_isBlank 3 = .ok (.if_icmp .eq 9, 3) := by decide +kernel
theorem dX6_isBlank_6 : decode cX6_isBlank 6 = .ok (.iload_n 0, 1) := by decide +kernel
theorem dX6_isBlank_7 : decode cX6_isBlank 7 = .ok (.bipush 10, 2) := by decide +kernel
theorem dX6_isBlank_9 : decode cX6_isBlank 9 = .ok (.if_icmp .ne 7, 3) := by decide +kernel
theorem dX6_isBlank_12 : decode cX6_isBlank 12 = .ok (.iconst 1, 1) := by decide +kernel
theorem dX6_isBlank_13 : decode cX6_isBlank 13 = .ok (.goto 4, 3) := by decide +kernel
theorem dX6_isBlank_16 : decode cX6_isBlank 16 = .ok (.iconst 0, 1) := by decide +kernel
theorem dX6_isBlank_17 : decode cX6_isBlank 17 = .ok (.ireturn, 1) := by decide +kernel
theorem dX6_isLetter_0 : decode cX6_isLetter 0 = .ok (.iload_n 0, 1) := by decide +kernel
theorem dX6_isLetter_1 : decode cX6_isLetter 1 = .ok (.bipush 97, 2) := by decide +kernel
theorem dX6_isLetter_3 : decode cX6_isLetter 3 = .ok (.if_icmp .lt 13, 3) := by decide +kernel
theorem dX6_isLetter_6 : decode cX6_isLetter 6 = .ok (.iload_n 0, 1) := by decide +kernel
theorem dX6_isLetter_7 : decode cX6_isLetter 7 = .ok (.bipush 122, 2) := by decide +kernel
theorem dX6_isLetter_9 : decode cX6_isLetter 9 = .ok (.if_icmp .gt 7, 3) := by decide +kernel
theorem dX6_isLetter_12 : decode cX6_isLetter 12 = .ok (.iconst 1, 1) := by decide +kernel
theorem dX6_isLetter_13 : decode cX6_isLetter 13 = .ok (.goto 4, 3) := by decide +kernel
theorem dX6_isLetter_16 : decode cX6_isLetter 16 = .ok (.iconst 0, 1) := by decide +kernel
theorem dX6_isLetter_17 : decode cX6_isLetter 17 = .ok (.ireturn, 1) := by decide +kernel
theorem dX6_isDigit_0 : decode cX6_isDigit 0 = .ok (.iload_n 0, 1) := by decide +kernel
theorem dX6_isDigit_1 : decode cX6_isDigit 1 = .ok (.bipush 48, 2) := by decide +kernel
theorem dX6_isDigit_3 : decode cX6_isDigit 3 = .ok (.if_icmp .lt 13, 3) := by decide +kernel
theorem dX6_isDigit_6 : decode cX6_isDigit 6 = .ok (.iload_n 0, 1) := by decide +kernel
theorem dX6_isDigit_7 : decode cX6_isDigit 7 = .ok (.bipush 57, 2) := by decide +kernel
theorem dX6_isDigit_9 : decode cX6_isDigit 9 = .ok (.if_icmp .gt 7, 3) := by decide +kernel
theorem dX6_isDigit_12 : decode cX6_isDigit 12 = .ok (.iconst 1, 1) := by decide +kernel
theorem dX6_isDigit_13 : decode cX6_isDigit 13 = .ok (.goto 4, 3) := by decide +kernel
theorem dX6_isDigit_16 : decode cX6_isDigit 16 = .ok (.iconst 0, 1) := by decide +kernel
theorem dX6_isDigit_17 : decode cX6_isDigit 17 = .ok (.ireturn, 1) := by decide +kernel
theorem dX6_isSign_0 : decode cX6_isSign 0 = .ok (.iload_n 0, 1) := by decide +kernel
theorem dX6_isSign_1 : decode cX6_isSign 1 = .ok (.bipush 59, 2) := by decide +kernel
theorem dX6_isSign_3 : decode cX6_isSign 3 = .ok (.if_icmp .eq 51, 3) := by decide +kernel
theorem dX6_isSign_6 : decode cX6_isSign 6 = .ok (.iload_n 0, 1) := by decide +kernel
theorem dX6_isSign_7 : decode cX6_isSign 7 = .ok (.bipush 40, 2) := by decide +kernel
theorem dX6_isSign_9 : decode cX6_isSign 9 = .ok (.if_icmp .eq 45, 3) := by decide +kernel
theorem dX6_isSign_12 : decode cX6_isSign 12 = .ok (.iload_n 0, 1) := by decide +kernel
theorem dX6_isSign_13 : decode cX6_isSign 13 = .ok (.bipush 41, 2) := by decide +kernel
theorem dX6_isSign_15 : decode cX6_isSign 15 = .ok (.if_icmp .eq 39, 3) := by decide +kernel
theorem dX6_isSign_18 : decode cX6_isSign 18 = .ok (.iload_n 0, 1) := by decide +kernel
theorem dX6_isSign_19 : decode cX6_isSign 19 = .ok (.bipush 43, 2) := by decide +kernel
theorem dX6_isSign_21 : decode cX6_isSign 21 = .ok (.if_icmp .eq 33, 3) := by decide +kernel
theorem dX6_isSign_24 : decode cX6_isSign 24 = .ok (.iload_n 0, 1) := by decide +kernel
theorem dX6_isSign_25 : decode cX6_isSign 25 = .ok (.bipush 45, 2) := by decide +kernel
theorem dX6_isSign_27 : decode cX6_isSign 27 = .ok (.if_icmp .eq 27, 3) := by decide +kernel
theorem dX6_isSign_30 : decode cX6_isSign 30 = .ok (.iload_n 0, 1) := by decide +kernel
theorem dX6_isSign_31 : decode cX6_isSign 31 = .ok (.bipush 42, 2) := by decide +kernel
theorem dX6_isSign_33 : decode cX6_isSign 33 = .ok (.if_icmp .eq 21, 3) := by decide +kernel
theorem dX6_isSign_36 : decode cX6_isSign 36 = .ok (.iload_n 0, 1) := by decide +kernel
theorem dX6_isSign_37 : decode cX6_isSign 37 = .ok (.bipush 47, 2) := by decide +kernel
theorem dX6_isSign_39 : decode cX6_isSign 39 = .ok (.if_icmp .eq 15, 3) := by decide +kernel
theorem dX6_isSign_42 : decode cX6_isSign 42 = .ok (.iload_n 0, 1) := by decide +kernel
theorem dX6_isSign_43 : decode cX6_isSign 43 = .ok (.bipush 60, 2) := by decide +kernel
theorem dX6_isSign_45 : decode cX6_isSign 45 = .ok (.if_icmp .eq 9, 3) := by decide +kernel
theorem dX6_isSign_48 : decode cX6_isSign 48 = .ok (.iload_n 0, 1) := by decide +kernel
theorem dX6_isSign_49 : decode cX6_isSign 49 = .ok (.bipush 61, 2) := by decide +kernel
theorem dX6_isSign_51 : decode cX6_isSign 51 = .ok (.if_icmp .ne 7, 3) := by decide +kernel
theorem dX6_isSign_54 : decode cX6_isSign 54 = .ok (.iconst 1, 1) := by decide +kernel
theorem dX6_isSign_55 : decode cX6_isSign 55 = .ok (.goto 4, 3) := by decide +kernel
theorem dX6_isSign_58 : decode cX6_isSign 58 = .ok (.iconst 0, 1) := by decide +kernel
theorem dX6_isSign_59 : decode cX6_isSign 59 = .ok (.ireturn, 1) := by decide +kernel
theorem dX6_step_0 : decode cX6_step 0 = .ok (.aload_n 0, 1) := by decide +kernel
theorem dX6_step_1 : decode cX6_step 1 = .ok (.getfield 22, 3) := by decide +kernel
theorem dX6_step_4 : decode cX6_step 4 = .ok (.aload_n 0, 1) := by decide +kernel
theorem dX6_step_5 : decode cX6_step 5 = .ok (.getfield 19, 3) := by decide +kernel
theorem dX6_step_8 : decode cX6_step 8 = .ok (.if_icmp .ge 30, 3) := by decide +kernel
theorem dX6_step_11 : decode cX6_step 11 = .ok (.aload_n 0, 1) := by decide +kernel
theorem dX6_step_12 : decode cX6_step 12 = .ok (.aload_n 0, 1) := by decide +kernel
theorem dX6_step_13 : decode cX6_step 13 = .ok (.getfield 22, 3) := by decide +kernel
theorem dX6_step_16 : decode cX6_step 16 = .ok (.invokevirtual 82, 3) := by decide +kernel
theorem dX6_step_19 : decode cX6_step 19 = .ok (.invokestatic 86, 3) := by decide +kernel
theorem dX6_step_22 : decode cX6_step 22 = .ok (.ifCond .eq 16, 3) := by decide +kernel
theorem dX6_step_25 : decode cX6_step 25 = .ok (.aload_n 0, 1) := by decide +kernel
theorem dX6_step_26 : decode cX6_step 26 = .ok (.dup, 1) := by decide +kernel
theorem dX6_step_27 : decode cX6_step 27 = .ok (.getfield 22, 3) := by decide +kernel
theorem dX6_step_30 : decode cX6_step 30 = .ok (.iconst 1, 1) := by decide +kernel
theorem dX6_step_31 : decode cX6_step 31 = .ok (.iadd, 1) := by decide +kernel
theorem dX6_step_32 : decode cX6_step 32 = .ok (.putfield 22, 3) := by decide +kernel
theorem dX6_step_35 : decode cX6_step 35 = .ok (.goto (-35), 3) := by decide +kernel
theorem dX6_step_38 : decode cX6_step 38 = .ok (.aload_n 0, 1) := by decide +kernel
theorem dX6_step_39 : decode cX6_step 39 = .ok (.aload_n 0, 1) := by decide +kernel
theorem dX6_step_40 : decode cX6_step 40 = .ok (.getfield 22, 3) := by decide +kernel
theorem dX6_step_43 : decode cX6_step 43 = .ok (.putfield 28, 3) := by decide +kernel
theorem dX6_step_46 : decode cX6_step 46 = .ok (.aload_n 0, 1) := by decide +kernel
theorem dX6_step_47 : decode cX6_step 47 = .ok (.aload_n 0, 1) := by decide +kernel
theorem dX6_step_48 : decode cX6_step 48 = .ok (.aload_n 0, 1) := by decide +kernel
theorem dX6_step_49 : decode cX6_step 49 = .ok (.getfield 22, 3) := by decide +kernel
theorem dX6_step_52 : decode cX6_step 52 = .ok (.invokevirtual 82, 3) := by decide +kernel
theorem dX6_step_55 : decode cX6_step 55 = .ok (.putfield 31, 3) := by decide +kernel
theorem dX6_step_58 : decode cX6_step 58 = .ok (.aload_n 0, 1) := by decide +kernel
theorem dX6_step_59 : decode cX6_step 59 = .ok (.getfield 22, 3) := by decide +kernel
theorem dX6_step_62 : decode cX6_step 62 = .ok (.aload_n 0, 1) := by decide +kernel
theorem dX6_step_63 : decode cX6_step 63 = .ok (.getfield 19, 3) := by decide +kernel
theorem dX6_step_66 : decode cX6_step 66 = .ok (.if_icmp .lt 11, 3) := by decide +kernel
theorem dX6_step_69 : decode cX6_step 69 = .ok (.aload_n 0, 1) := by decide +kernel
theorem dX6_step_70 : decode cX6_step 70 = .ok (.iconst 0, 1) := by decide +kernel
theorem dX6_step_71 : decode cX6_step 71 = .ok (.putfield 25, 3) := by decide +kernel
theorem dX6_step_74 : decode cX6_step 74 = .ok (.goto 107, 3) := by decide +kernel
theorem dX6_step_77 : decode cX6_step 77 = .ok (.aload_n 0, 1) := by decide +kernel
theorem dX6_step_78 : decode cX6_step 78 = .ok (.getfield 31, 3) := by decide +kernel
theorem dX6_step_81 : decode cX6_step 81 = .ok (.invokestatic 90, 3) := by decide +kernel
theorem dX6_step_84 : decode cX6_step 84 = .ok (.ifCond .eq 46, 3) := by decide +kernel
theorem dX6_step_87 : decode cX6_step 87 = .ok (.aload_n 0, 1) := by decide +kernel
theorem dX6_step_88 : decode cX6_step 88 = .ok (.iconst 1, 1) := by decide +kernel
theorem dX6_step_89 : decode cX6_step 89 = .ok (.putfield 25, 3) := by decide +kernel
theorem dX6_step_92 : decode cX6_step 92 = .ok (.aload_n 0, 1) := by decide +kernel
theorem dX6_step_93 : decode cX6_step 93 = .ok (.getfield 22, 3) := by decide +kernel
theorem dX6_step_96 : decode cX6_step 96 = .ok (.aload_n 0, 1) := by decide +kernel
theorem dX6_step_97 : decode cX6_step 97 = .ok (.getfield 19, 3) := by decide +kernel
theorem dX6_step_100 : decode cX6_step 100 = .ok (.if_icmp .ge 81, 3) := by decide +kernel
theorem dX6_step_103 : decode cX6_step 103 = .ok (.aload_n 0, 1) := by decide +kernel
theorem dX6_step_104 : decode cX6_step 104 = .ok (.aload_n 0, 1) := by decide +kernel
theorem dX6_step_105 : decode cX6_step 105 = .ok (.getfield 22, 3) := by decide +kernel
theorem dX6_step_108 : decode cX6_step 108 = .ok (.invokevirtual 82, 3) := by decide +kernel
theorem dX6_step_111 : decode cX6_step 111 = .ok (.invokestatic 90, 3) := by decide +kernel
theorem dX6_step_114 : decode cX6_step 114 = .ok (.ifCond .eq 67, 3) := by decide +kernel
theorem dX6_step_117 : decode cX6_step 117 = .ok (.aload_n 0, 1) := by decide +kernel
theorem dX6_step_118 : decode cX6_step 118 = .ok (.dup, 1) := by decide +kernel
theorem dX6_step_119 : decode cX6_step 119 = .ok (.getfield 22, 3) := by decide +kernel
theorem dX6_step_122 : decode cX6_step 122 = .ok (.iconst 1, 1) := by decide +kernel
theorem dX6_step_123 : decode cX6_step 123 = .ok (.iadd, 1) := by decide +kernel
theorem dX6_step_124 : decode cX6_step 124 = .ok (.putfield 22, 3) := by decide +kernel
theorem dX6_step_127 : decode cX6_step 127 = .ok (.goto (-35), 3) := by decide +kernel
theorem dX6_step_130 : decode cX6_step 130 = .ok (.aload_n 0, 1) := by decide +kernel
theorem dX6_step_131 : decode cX6_step 131 = .ok (.getfield 31, 3) := by decide +kernel
theorem dX6_step_134 : decode cX6_step 134 = .ok (.invokestatic 93, 3) := by decide +kernel
theorem dX6_step_137 : decode cX6_step 137 = .ok (.ifCond .eq 15, 3) := by decide +kernel
theorem dX6_step_140 : decode cX6_step 140 = .ok (.aload_n 0, 1) := by decide +kernel
theorem dX6_step_141 : decode cX6_step 141 = .ok (.iconst 2, 1) := by decide +kernel
theorem dX6_step_142 : decode cX6_step 142 = .ok (.putfield 25, 3) := by decide +kernel
theorem dX6_step_145 : decode cX6_step 145 = .ok (.aload_n 0, 1) := by decide +kernel
theorem dX6_step_146 : decode cX6_step 146 = .ok (.invokevirtual 96, 3) := by decide +kernel
theorem dX6_step_149 : decode cX6_step 149 = .ok (.goto 32, 3) := by decide +kernel
theorem dX6_step_152 : decode cX6_step 152 = .ok (.aload_n 0, 1) := by decide +kernel
theorem dX6_step_153 : decode cX6_step 153 = .ok (.aload_n 0, 1) := by decide +kernel
theorem dX6_step_154 : decode cX6_step 154 = .ok (.getfield 31, 3) := by decide +kernel
theorem dX6_step_157 : decode cX6_step 157 = .ok (.invokestatic 99, 3) := by decide +kernel
theorem dX6_step_160 : decode cX6_step 160 = .ok (.ifCond .eq 7, 3) := by decide +kernel
theorem dX6_step_163 : decode cX6_step 163 = .ok (.iconst 3, 1) := by decide +kernel
theorem dX6_step_164 : decode cX6_step 164 = .ok (.goto 4, 3) := by decide +kernel
theorem dX6_step_167 : decode cX6_step 167 = .ok (.iconst 4, 1) := by decide +kernel
theorem dX6_step_168 : decode cX6_step 168 = .ok (.putfield 25, 3) := by decide +kernel
theorem dX6_step_171 : decode cX6_step 171 = .ok (.aload_n 0, 1) := by decide +kernel
theorem dX6_step_172 : decode cX6_step 172 = .ok (.dup, 1) := by decide +kernel
theorem dX6_step_173 : decode cX6_step 173 = .ok (.getfield 22, 3) := by decide +kernel
theorem dX6_step_176 : decode cX6_step 176 = .ok (.iconst 1, 1) := by decide +kernel
theorem dX6_step_177 : decode cX6_step 177 = .ok (.iadd, 1) := by decide +kernel
theorem dX6_step_178 : decode cX6_step 178 = .ok (.putfield 22, 3) := by decide +kernel
theorem dX6_step_181 : decode cX6_step 181 = .ok (.return_, 1) := by decide +kernel
theorem dX6_stepNumber_0 : decode cX6_stepNumber 0 = .ok (.aload_n 0, 1) := by decide +kernel
theorem dX6_stepNumber_1 : decode cX6_stepNumber 1 = .ok (.iconst 0, 1) := by decide +kernel
theorem dX6_stepNumber_2 : decode cX6_stepNumber 2 = .ok (.putfield 37, 3) := by decide +kernel
theorem dX6_stepNumber_5 : decode cX6_stepNumber 5 = .ok (.aload_n 0, 1) := by decide +kernel
theorem dX6_stepNumber_6 : decode cX6_stepNumber 6 = .ok (.iconst 0, 1) := by decide +kernel
theorem dX6_stepNumber_7 : decode cX6_stepNumber 7 = .ok (.putfield 34, 3) := by decide +kernel
theorem dX6_stepNumber_10 : decode cX6_stepNumber 10 = .ok (.aload_n 0, 1) := by decide +kernel
theorem dX6_stepNumber_11 : decode cX6_stepNumber 11 = .ok (.getfield 22, 3) := by decide +kernel
theorem dX6_stepNumber_14 : decode cX6_stepNumber 14 = .ok (.aload_n 0, 1) := by decide +kernel
theorem dX6_stepNumber_15 : decode cX6_stepNumber 15 = .ok (.getfield 19, 3) := by decide +kernel
theorem dX6_stepNumber_18 : decode cX6_stepNumber 18 = .ok (.if_icmp .ge 78, 3) := by decide +kernel
theorem dX6_stepNumber_21 : decode cX6_stepNumber 21 = .ok (.aload_n 0, 1) := by decide +kernel
theorem dX6_stepNumber_22 : decode cX6_stepNumber 22 = .ok (.aload_n 0, 1) := by decide +kernel
theorem dX6_stepNumber_23 : decode cX6_stepNumber 23 = .ok (.getfield 22, 3) := by decide +kernel
theorem dX6_stepNumber_26 : decode cX6_stepNumber 26 = .ok (.invokevirtual 82, 3) := by decide +kernel
theorem dX6_stepNumber_29 : decode cX6_stepNumber 29 = .ok (.invokestatic 93, 3) := by decide +kernel
theorem dX6_stepNumber_32 : decode cX6_stepNumber 32 = .ok (.ifCond .eq 64, 3) := by decide +kernel
theorem dX6_stepNumber_35 : decode cX6_stepNumber 35 = .ok (.aload_n 0, 1) := by decide +kernel
theorem dX6_stepNumber_36 : decode cX6_stepNumber 36 = .ok (.dup, 1) := by decide +kernel
theorem dX6_stepNumber_37 : decode cX6_stepNumber 37 = .ok (.getfield 34, 3) := by decide +kernel
theorem dX6_stepNumber_40 : decode cX6_stepNumber 40 = .ok (.iconst 1, 1) := by decide +kernel
theorem dX6_stepNumber_41 : decode cX6_stepNumber 41 = .ok (.iadd, 1) := by decide +kernel
theorem dX6_stepNumber_42 : decode cX6_stepNumber 42 = .ok (.putfield 34, 3) := by decide +kernel
theorem dX6_stepNumber_45 : decode cX6_stepNumber 45 = .ok (.aload_n 0, 1) := by decide +kernel
theorem dX6_stepNumber_46 : decode cX6_stepNumber 46 = .ok (.aload_n 0, 1) := by decide +kernel
theorem dX6_stepNumber_47 : decode cX6_stepNumber 47 = .ok (.getfield 34, 3) := by decide +kernel
theorem dX6_stepNumber_50 : decode cX6_stepNumber 50 = .ok (.iconst 4, 1) := by decide +kernel
theorem dX6_stepNumber_51 : decode cX6_stepNumber 51 = .ok (.if_icmp .gt 25, 3) := by decide +kernel
theorem dX6_stepNumber_54 : decode cX6_stepNumber 54 = .ok (.bipush 10, 2) := by decide +kernel
theorem dX6_stepNumber_56 : decode cX6_stepNumber 56 = .ok (.aload_n 0, 1) := by decide +kernel
theorem dX6_stepNumber_57 : decode cX6_stepNumber 57 = .ok (.getfield 37, 3) := by decide +kernel
theorem dX6_stepNumber_60 : decode cX6_stepNumber 60 = .ok (.imul, 1) := by decide +kernel
theorem dX6_stepNumber_61 : decode cX6_stepNumber 61 = .ok (.aload_n 0, 1) := by decide +kernel
theorem dX6_stepNumber_62 : decode cX6_stepNumber 62 = .ok (.aload_n 0, 1) := by decide +kernel
theorem dX6_stepNumber_63 : decode cX6_stepNumber 63 = .ok (.getfield 22, 3) := by decide +kernel
theorem dX6_stepNumber_66 : decode cX6_stepNumber 66 = .ok (.invokevirtual 82, 3) := by decide +kernel
theorem dX6_stepNumber_69 : decode cX6_stepNumber 69 = .ok (.iadd, 1) := by decide +kernel
theorem dX6_stepNumber_70 : decode cX6_stepNumber 70 = .ok (.bipush 48, 2) := by decide +kernel
theorem dX6_stepNumber_72 : decode cX6_stepNumber 72 = .ok (.isub, 1) := by decide +kernel
theorem dX6_stepNumber_73 : decode cX6_stepNumber 73 = .ok (.goto 7, 3) := by decide +kernel
theorem dX6_stepNumber_76 : decode cX6_stepNumber 76 = .ok (.aload_n 0, 1) := by decide +kernel
theorem dX6_stepNumber_77 : decode cX6_stepNumber 77 = .ok (.getfield 37, 3) := by decide +kernel
theorem dX6_stepNumber_80 : decode cX6_stepNumber 80 = .ok (.putfield 37, 3) := by decide +kernel
theorem dX6_stepNumber_83 : decode cX6_stepNumber 83 = .ok (.aload_n 0, 1) := by decide +kernel
theorem dX6_stepNumber_84 : decode cX6_stepNumber 84 = .ok (.dup, 1) := by decide +kernel
theorem dX6_stepNumber_85 : decode cX6_stepNumber 85 = .ok (.getfield 22, 3) := by decide +kernel
theorem dX6_stepNumber_88 : decode cX6_stepNumber 88 = .ok (.iconst 1, 1) := by decide +kernel
theorem dX6_stepNumber_89 : decode cX6_stepNumber 89 = .ok (.iadd, 1) := by decide +kernel
theorem dX6_stepNumber_90 : decode cX6_stepNumber 90 = .ok (.putfield 22, 3) := by decide +kernel
theorem dX6_stepNumber_93 : decode cX6_stepNumber 93 = .ok (.goto (-83), 3) := by decide +kernel
theorem dX6_stepNumber_96 : decode cX6_stepNumber 96 = .ok (.return_, 1) := by decide +kernel
theorem dX6_isAtSign_0 : decode cX6_isAtSign 0 = .ok (.aload_n 0, 1) := by decide +kernel
theorem dX6_isAtSign_1 : decode cX6_isAtSign 1 = .ok (.getfield 25, 3) := by decide +kernel
theorem dX6_isAtSign_4 : decode cX6_isAtSign 4 = .ok (.iconst 3, 1) := by decide +kernel
theorem dX6_isAtSign_5 : decode cX6_isAtSign 5 = .ok (.if_icmp .ne 15, 3) := by decide +kernel
theorem dX6_isAtSign_8 : decode cX6_isAtSign 8 = .ok (.aload_n 0, 1) := by decide +kernel
theorem dX6_isAtSign_9 : decode cX6_isAtSign 9 = .ok (.getfield 31, 3) := by decide +kernel
theorem dX6_isAtSign_12 : decode cX6_isAtSign 12 = .ok (.iload_n 1, 1) := by decide +kernel
theorem dX6_isAtSign_13 : decode cX6_isAtSign 13 = .ok (.if_icmp .ne 7, 3) := by decide +kernel
theorem dX6_isAtSign_16 : decode cX6_isAtSign 16 = .ok (.iconst 1, 1) := by decide +kernel
theorem dX6_isAtSign_17 : decode cX6_isAtSign 17 = .ok (.goto 4, 3) := by decide +kernel
theorem dX6_isAtSign_20 : decode cX6_isAtSign 20 = .ok (.iconst 0, 1) := by decide +kernel
theorem dX6_isAtSign_21 : decode cX6_isAtSign 21 = .ok (.ireturn, 1) := by decide +kernel
theorem dX6_isAtWord_0 : decode cX6_isAtWord 0 = .ok (.aload_n 0, 1) := by decide +kernel
theorem dX6_isAtWord_1 : decode cX6_isAtWord 1 = .ok (.getfield 25, 3) := by decide +kernel
theorem dX6_isAtWord_4 : decode cX6_isAtWord 4 = .ok (.iconst 1, 1) := by decide +kernel
theorem dX6_isAtWord_5 : decode cX6_isAtWord 5 = .ok (.if_icmp .ne 19, 3) := by decide +kernel
theorem dX6_isAtWord_8 : decode cX6_isAtWord 8 = .ok (.aload_n 0, 1) := by decide +kernel
theorem dX6_isAtWord_9 : decode cX6_isAtWord 9 = .ok (.getfield 22, 3) := by decide +kernel
theorem dX6_isAtWord_12 : decode cX6_isAtWord 12 = .ok (.aload_n 0, 1) := by decide +kernel
theorem dX6_isAtWord_13 : decode cX6_isAtWord 13 = .ok (.getfield 28, 3) := by decide +kernel
theorem dX6_isAtWord_16 : decode cX6_isAtWord 16 = .ok (.isub, 1) := by decide +kernel
theorem dX6_isAtWord_17 : decode cX6_isAtWord 17 = .ok (.aload_n 1, 1) := by decide +kernel
theorem dX6_isAtWord_18 : decode cX6_isAtWord 18 = .ok (.invokevirtual 102, 3) := by decide +kernel
theorem dX6_isAtWord_21 : decode cX6_isAtWord 21 = .ok (.if_icmp .eq 5, 3) := by decide +kernel
theorem dX6_isAtWord_24 : decode cX6_isAtWord 24 = .ok (.iconst 0, 1) := by decide +kernel
theorem dX6_isAtWord_25 : decode cX6_isAtWord 25 = .ok (.ireturn, 1) := by decide +kernel
theorem dX6_isAtWord_26 : decode cX6_isAtWord 26 = .ok (.iconst 0, 1) := by decide +kernel
theorem dX6_isAtWord_27 : decode cX6_isAtWord 27 = .ok (.istore_n 2, 1) := by decide +kernel
theorem dX6_isAtWord_28 : decode cX6_isAtWord 28 = .ok (.iload_n 2, 1) := by decide +kernel
theorem dX6_isAtWord_29 : decode cX6_isAtWord 29 = .ok (.aload_n 1, 1) := by decide +kernel
theorem dX6_isAtWord_30 : decode cX6_isAtWord 30 = .ok (.invokevirtual 102, 3) := by decide +kernel
theorem dX6_isAtWord_33 : decode cX6_isAtWord 33 = .ok (.if_icmp .ge 45, 3) := by decide +kernel
theorem dX6_isAtWord_36 : decode cX6_isAtWord 36 = .ok (.aload_n 0, 1) := by decide +kernel
theorem dX6_isAtWord_37 : decode cX6_isAtWord 37 = .ok (.getfield 28, 3) := by decide +kernel
theorem dX6_isAtWord_40 : decode cX6_isAtWord 40 = .ok (.iload_n 2, 1) := by decide +kernel
theorem dX6_isAtWord_41 : decode cX6_isAtWord 41 = .ok (.iadd, 1) := by decide +kernel
theorem dX6_isAtWord_42 : decode cX6_isAtWord 42 = .ok (.istore_n 3, 1) := by decide +kernel
theorem dX6_isAtWord_43 : decode cX6_isAtWord 43 = .ok (.iload_n 3, 1) := by decide +kernel
theorem dX6_isAtWord_44 : decode cX6_isAtWord 44 = .ok (.ifCond .lt 26, 3) := by decide +kernel
theorem dX6_isAtWord_47 : decode cX6_isAtWord 47 = .ok (.iload_n 3, 1) := by decide +kernel
theorem dX6_isAtWord_48 : decode cX6_isAtWord 48 = .ok (.aload_n 0, 1) := by decide +kernel
theorem dX6_isAtWord_49 : decode cX6_isAtWord 49 = .ok (.getfield 9, 3) := by decide +kernel
theorem dX6_isAtWord_52 : decode cX6_isAtWord 52 = .ok (.arraylength, 1) := by decide +kernel
theorem dX6_isAtWord_53 : decode cX6_isAtWord 53 = .ok (.if_icmp .ge 17, 3) := by decide +kernel
theorem dX6_isAtWord_56 : decode cX6_isAtWord 56 = .ok (.aload_n 0, 1) := by decide +kernel
theorem dX6_isAtWord_57 : decode cX6_isAtWord 57 = .ok (.getfield 9, 3) := by decide +kernel
theorem dX6_isAtWord_60 : decode cX6_isAtWord 60 = .ok (.iload_n 3, 1) := by decide +kernel
theorem dX6_isAtWord_61 : decode cX6_isAtWord 61 = .ok (.baload, 1) := by decide +kernel
theorem dX6_isAtWord_62 : decode cX6_isAtWord 62 = .ok (.aload_n 1, 1) := by decide +kernel
theorem dX6_isAtWord_63 : decode cX6_isAtWord 63 = .ok (.iload_n 2, 1) := by decide +kernel
theorem dX6_isAtWord_64 : decode cX6_isAtWord 64 = .ok (.invokevirtual 108, 3) := by decide +kernel
theorem dX6_isAtWord_67 : decode cX6_isAtWord 67 = .ok (.if_icmp .eq 5, 3) := by decide +kernel
theorem dX6_isAtWord_70 : decode cX6_isAtWord 70 = .ok (.iconst 0, 1) := by decide +kernel
theorem dX6_isAtWord_71 : decode cX6_isAtWord 71 = .ok (.ireturn, 1) := by decide +kernel
theorem dX6_isAtWord_72 : decode cX6_isAtWord 72 = .ok (.iinc 2 1, 3) := by decide +kernel
theorem dX6_isAtWord_75 : decode cX6_isAtWord 75 = .ok (.goto (-47), 3) := by decide +kernel
theorem dX6_isAtWord_78 : decode cX6_isAtWord 78 = .ok (.iconst 1, 1) := by decide +kernel
theorem dX6_isAtWord_79 : decode cX6_isAtWord 79 = .ok (.ireturn, 1) := by decide +kernel
theorem dX6_lineWord_0 : decode cX6_lineWord 0 = .ok (.aload_n 0, 1) := by decide +kernel
theorem dX6_lineWord_1 : decode cX6_lineWord 1 = .ok (.ldc 112, 2) := by decide +kernel
theorem dX6_lineWord_3 : decode cX6_lineWord 3 = .ok (.invokevirtual 114, 3) := by decide +kernel
theorem dX6_lineWord_6 : decode cX6_lineWord 6 = .ok (.ifCond .eq 7, 3) := by decide +kernel
theorem dX6_lineWord_9 : decode cX6_lineWord 9 = .ok (.iconst 0, 1) := by decide +kernel
theorem dX6_lineWord_10 : decode cX6_lineWord 10 = .ok (.goto 125, 3) := by decide +kernel
theorem dX6_lineWord_13 : decode cX6_lineWord 13 = .ok (.aload_n 0, 1) := by decide +kernel
theorem dX6_lineWord_14 : decode cX6_lineWord 14 = .ok (.ldc 118, 2) := by decide +kernel
theorem dX6_lineWord_16 : decode cX6_lineWord 16 = .ok (.invokevirtual 114, 3) := by decide +kernel
theorem dX6_lineWord_19 : decode cX6_lineWord 19 = .ok (.ifCond .eq 7, 3) := by decide +kernel
theorem dX6_lineWord_22 : decode cX6_lineWord 22 = .ok (.iconst 1, 1) := by decide +kernel
theorem dX6_lineWord_23 : decode cX6_lineWord 23 = .ok (.goto 112, 3) := by decide +kernel
theorem dX6_lineWord_26 : decode cX6_lineWord 26 = .ok (.aload_n 0, 1) := by decide +kernel
theorem dX6_lineWord_27 : decode cX6_lineWord 27 = .ok (.ldc 120, 2) := by decide +kernel
theorem dX6_lineWord_29 : decode cX6_lineWord 29 = .ok (.invokevirtual 114, 3) := by decide +kernel
theorem dX6_lineWord_32 : decode cX6_lineWord 32 = .ok (.ifCond .eq 7, 3) := by decide +kernel
theorem dX6_lineWord_35 : decode cX6_lineWord 35 = .ok (.iconst 2, 1) := by decide +kernel
theorem dX6_lineWord_36 : decode cX6_lineWord 36 = .ok (.goto 99, 3) := by decide +kernel
theorem dX6_lineWord_39 : decode cX6_lineWord 39 = .ok (.aload_n 0, 1) := by decide +kernel
theorem dX6_lineWord_40 : decode cX6_lineWord 40 = .ok (.ldc 122, 2) := by decide +kernel
theorem dX6_lineWord_42 : decode cX6_lineWord 42 = .ok (.invokevirtual 114, 3) := by decide +kernel
theorem dX6_lineWord_45 : decode cX6_lineWord 45 = .ok (.ifCond .eq 7, 3) := by decide +kernel
theorem dX6_lineWord_48 : decode cX6_lineWord 48 = .ok (.iconst 3, 1) := by decide +kernel
theorem dX6_lineWord_49 : decode cX6_lineWord 49 = .ok (.goto 86, 3) := by decide +kernel
theorem dX6_lineWord_52 : decode cX6_lineWord 52 = .ok (.aload_n 0, 1) := by decide +kernel
theorem dX6_lineWord_53 : decode cX6_lineWord 53 = .ok (.ldc 124, 2) := by decide +kernel
theorem dX6_lineWord_55 : decode cX6_lineWord 55 = .ok (.invokevirtual 114, 3) := by decide +kernel
theorem dX6_lineWord_58 : decode cX6_lineWord 58 = .ok (.ifCond .eq 7, 3) := by decide +kernel
theorem dX6_lineWord_61 : decode cX6_lineWord 61 = .ok (.iconst 4, 1) := by decide +kernel
theorem dX6_lineWord_62 : decode cX6_lineWord 62 = .ok (.goto 73, 3) := by decide +kernel
theorem dX6_lineWord_65 : decode cX6_lineWord 65 = .ok (.aload_n 0, 1) := by decide +kernel
theorem dX6_lineWord_66 : decode cX6_lineWord 66 = .ok (.ldc 126, 2) := by decide +kernel
theorem dX6_lineWord_68 : decode cX6_lineWord 68 = .ok (.invokevirtual 114, 3) := by decide +kernel
theorem dX6_lineWord_71 : decode cX6_lineWord 71 = .ok (.ifCond .eq 7, 3) := by decide +kernel
theorem dX6_lineWord_74 : decode cX6_lineWord 74 = .ok (.iconst 5, 1) := by decide +kernel
theorem dX6_lineWord_75 : decode cX6_lineWord 75 = .ok (.goto 60, 3) := by decide +kernel
theorem dX6_lineWord_78 : decode cX6_lineWord 78 = .ok (.aload_n 0, 1) := by decide +kernel
theorem dX6_lineWord_79 : decode cX6_lineWord 79 = .ok (.ldc 128, 2) := by decide +kernel
theorem dX6_lineWord_81 : decode cX6_lineWord 81 = .ok (.invokevirtual 114, 3) := by decide +kernel
theorem dX6_lineWord_84 : decode cX6_lineWord 84 = .ok (.ifCond .eq 8, 3) := by decide +kernel
theorem dX6_lineWord_87 : decode cX6_lineWord 87 = .ok (.bipush 6, 2) := by decide +kernel
theorem dX6_lineWord_89 : decode cX6_lineWord 89 = .ok (.goto 46, 3) := by decide +kernel
theorem dX6_lineWord_92 : decode cX6_lineWord 92 = .ok (.aload_n 0, 1) := by decide +kernel
theorem dX6_lineWord_93 : decode cX6_lineWord 93 = .ok (.ldc 130, 2) := by decide +kernel
theorem dX6_lineWord_95 : decode cX6_lineWord 95 = .ok (.invokevirtual 114, 3) := by decide +kernel
theorem dX6_lineWord_98 : decode cX6_lineWord 98 = .ok (.ifCond .eq 8, 3) := by decide +kernel
theorem dX6_lineWord_101 : decode cX6_lineWord 101 = .ok (.bipush 7, 2) := by decide +kernel
theorem dX6_lineWord_103 : decode cX6_lineWord 103 = .ok (.goto 32, 3) := by decide +kernel
theorem dX6_lineWord_106 : decode cX6_lineWord 106 = .ok (.aload_n 0, 1) := by decide +kernel
theorem dX6_lineWord_107 : decode cX6_lineWord 107 = .ok (.ldc 132, 2) := by decide +kernel
theorem dX6_lineWord_109 : decode cX6_lineWord 109 = .ok (.invokevirtual 114, 3) := by decide +kernel
theorem dX6_lineWord_112 : decode cX6_lineWord 112 = .ok (.ifCond .eq 8, 3) := by decide +kernel
theorem dX6_lineWord_115 : decode cX6_lineWord 115 = .ok (.bipush 8, 2) := by decide +kernel
theorem dX6_lineWord_117 : decode cX6_lineWord 117 = .ok (.goto 18, 3) := by decide +kernel
theorem dX6_lineWord_120 : decode cX6_lineWord 120 = .ok (.aload_n 0, 1) := by decide +kernel
theorem dX6_lineWord_121 : decode cX6_lineWord 121 = .ok (.ldc 134, 2) := by decide +kernel
theorem dX6_lineWord_123 : decode cX6_lineWord 123 = .ok (.invokevirtual 114, 3) := by decide +kernel
theorem dX6_lineWord_126 : decode cX6_lineWord 126 = .ok (.ifCond .eq 8, 3) := by decide +kernel
theorem dX6_lineWord_129 : decode cX6_lineWord 129 = .ok (.bipush 9, 2) := by decide +kernel
theorem dX6_lineWord_131 : decode cX6_lineWord 131 = .ok (.goto 4, 3) := by decide +kernel
theorem dX6_lineWord_134 : decode cX6_lineWord 134 = .ok (.iconst (-1), 1) := by decide +kernel
theorem dX6_lineWord_135 : decode cX6_lineWord 135 = .ok (.ireturn, 1) := by decide +kernel
theorem dX6_valueWord_0 : decode cX6_valueWord 0 = .ok (.aload_n 0, 1) := by decide +kernel
theorem dX6_valueWord_1 : decode cX6_valueWord 1 = .ok (.ldc 136, 2) := by decide +kernel
theorem dX6_valueWord_3 : decode cX6_valueWord 3 = .ok (.invokevirtual 114, 3) := by decide +kernel
theorem dX6_valueWord_6 : decode cX6_valueWord 6 = .ok (.ifCond .eq 7, 3) := by decide +kernel
theorem dX6_valueWord_9 : decode cX6_valueWord 9 = .ok (.iconst 0, 1) := by decide +kernel
theorem dX6_valueWord_10 : decode cX6_valueWord 10 = .ok (.goto 83, 3) := by decide +kernel
theorem dX6_valueWord_13 : decode cX6_valueWord 13 = .ok (.aload_n 0, 1) := by decide +kernel
theorem dX6_valueWord_14 : decode cX6_valueWord 14 = .ok (.ldc 138, 2) := by decide +kernel
theorem dX6_valueWord_16 : decode cX6_valueWord 16 = .ok (.invokevirtual 114, 3) := by decide +kernel
theorem dX6_valueWord_19 : decode cX6_valueWord 19 = .ok (.ifCond .eq 7, 3) := by decide +kernel
theorem dX6_valueWord_22 : decode cX6_valueWord 22 = .ok (.iconst 1, 1) := by decide +kernel
theorem dX6_valueWord_23 : decode cX6_valueWord 23 = .ok (.goto 70, 3) := by decide +kernel
theorem dX6_valueWord_26 : decode cX6_valueWord 26 = .ok (.aload_n 0, 1) := by decide +kernel
theorem dX6_valueWord_27 : decode cX6_valueWord 27 = .ok (.ldc 140, 2) := by decide +kernel
theorem dX6_valueWord_29 : decode cX6_valueWord 29 = .ok (.invokevirtual 114, 3) := by decide +kernel
theorem dX6_valueWord_32 : decode cX6_valueWord 32 = .ok (.ifCond .eq 7, 3) := by decide +kernel
theorem dX6_valueWord_35 : decode cX6_valueWord 35 = .ok (.iconst 2, 1) := by decide +kernel
theorem dX6_valueWord_36 : decode cX6_valueWord 36 = .ok (.goto 57, 3) := by decide +kernel
theorem dX6_valueWord_39 : decode cX6_valueWord 39 = .ok (.aload_n 0, 1) := by decide +kernel
theorem dX6_valueWord_40 : decode cX6_valueWord 40 = .ok (.ldc 141, 2) := by decide +kernel
theorem dX6_valueWord_42 : decode cX6_valueWord 42 = .ok (.invokevirtual 114, 3) := by decide +kernel
theorem dX6_valueWord_45 : decode cX6_valueWord 45 = .ok (.ifCond .eq 7, 3) := by decide +kernel
theorem dX6_valueWord_48 : decode cX6_valueWord 48 = .ok (.iconst 3, 1) := by decide +kernel
theorem dX6_valueWord_49 : decode cX6_valueWord 49 = .ok (.goto 44, 3) := by decide +kernel
theorem dX6_valueWord_52 : decode cX6_valueWord 52 = .ok (.aload_n 0, 1) := by decide +kernel
theorem dX6_valueWord_53 : decode cX6_valueWord 53 = .ok (.ldc 124, 2) := by decide +kernel
theorem dX6_valueWord_55 : decode cX6_valueWord 55 = .ok (.invokevirtual 114, 3) := by decide +kernel
theorem dX6_valueWord_58 : decode cX6_valueWord 58 = .ok (.ifCond .eq 7, 3) := by decide +kernel
theorem dX6_valueWord_61 : decode cX6_valueWord 61 = .ok (.iconst 4, 1) := by decide +kernel
theorem dX6_valueWord_62 : decode cX6_valueWord 62 = .ok (.goto 31, 3) := by decide +kernel
theorem dX6_valueWord_65 : decode cX6_valueWord 65 = .ok (.aload_n 0, 1) := by decide +kernel
theorem dX6_valueWord_66 : decode cX6_valueWord 66 = .ok (.ldc 143, 2) := by decide +kernel
theorem dX6_valueWord_68 : decode cX6_valueWord 68 = .ok (.invokevirtual 114, 3) := by decide +kernel
theorem dX6_valueWord_71 : decode cX6_valueWord 71 = .ok (.ifCond .eq 7, 3) := by decide +kernel
theorem dX6_valueWord_74 : decode cX6_valueWord 74 = .ok (.iconst 5, 1) := by decide +kernel
theorem dX6_valueWord_75 : decode cX6_valueWord 75 = .ok (.goto 18, 3) := by decide +kernel
theorem dX6_valueWord_78 : decode cX6_valueWord 78 = .ok (.aload_n 0, 1) := by decide +kernel
theorem dX6_valueWord_79 : decode cX6_valueWord 79 = .ok (.ldc 145, 2) := by decide +kernel
theorem dX6_valueWord_81 : decode cX6_valueWord 81 = .ok (.invokevirtual 114, 3) := by decide +kernel
theorem dX6_valueWord_84 : decode cX6_valueWord 84 = .ok (.ifCond .eq 8, 3) := by decide +kernel
theorem dX6_valueWord_87 : decode cX6_valueWord 87 = .ok (.bipush 6, 2) := by decide +kernel
theorem dX6_valueWord_89 : decode cX6_valueWord 89 = .ok (.goto 4, 3) := by decide +kernel
theorem dX6_valueWord_92 : decode cX6_valueWord 92 = .ok (.iconst (-1), 1) := by decide +kernel
theorem dX6_valueWord_93 : decode cX6_valueWord 93 = .ok (.ireturn, 1) := by decide +kernel
theorem dX6_readLine_0 : decode cX6_readLine 0 = .ok (.aload_n 0, 1) := by decide +kernel
theorem dX6_readLine_1 : decode cX6_readLine 1 = .ok (.invokevirtual 147, 3) := by decide +kernel
theorem dX6_readLine_4 : decode cX6_readLine 4 = .ok (.istore_n 1, 1) := by decide +kernel
theorem dX6_readLine_5 : decode cX6_readLine 5 = .ok (.iload_n 1, 1) := by decide +kernel
theorem dX6_readLine_6 : decode cX6_readLine 6 = .ok (.iconst (-1), 1) := by decide +kernel
theorem dX6_readLine_7 : decode cX6_readLine 7 = .ok (.if_icmp .ne 9, 3) := by decide +kernel
theorem dX6_readLine_10 : decode cX6_readLine 10 = .ok (.aload_n 0, 1) := by decide +kernel
theorem dX6_readLine_11 : decode cX6_readLine 11 = .ok (.iconst 1, 1) := by decide +kernel
theorem dX6_readLine_12 : decode cX6_readLine 12 = .ok (.invokevirtual 150, 3) := by decide +kernel
theorem dX6_readLine_15 : decode cX6_readLine 15 = .ok (.ireturn, 1) := by decide +kernel
theorem dX6_readLine_16 : decode cX6_readLine 16 = .ok (.iload_n 1, 1) := by decide +kernel
theorem dX6_readLine_17 : decode cX6_readLine 17 = .ok (.iconst 4, 1) := by decide +kernel
theorem dX6_readLine_18 : decode cX6_readLine 18 = .ok (.if_icmp .ge 24, 3) := by decide +kernel
theorem dX6_readLine_21 : decode cX6_readLine 21 = .ok (.aload_n 0, 1) := by decide +kernel
theorem dX6_readLine_22 : decode cX6_readLine 22 = .ok (.iload_n 1, 1) := by decide +kernel
theorem dX6_readLine_23 : decode cX6_readLine 23 = .ok (.invokevirtual 153, 3) := by decide +kernel
theorem dX6_readLine_26 : decode cX6_readLine 26 = .ok (.ifCond .eq 14, 3) := by decide +kernel
theorem dX6_readLine_29 : decode cX6_readLine 29 = .ok (.aload_n 0, 1) := by decide +kernel
theorem dX6_readLine_30 : decode cX6_readLine 30 = .ok (.invokevirtual 156, 3) := by decide +kernel
theorem dX6_readLine_33 : decode cX6_readLine 33 = .ok (.ifCond .eq 7, 3) := by decide +kernel
theorem dX6_readLine_36 : decode cX6_readLine 36 = .ok (.iconst 1, 1) := by decide +kernel
theorem dX6_readLine_37 : decode cX6_readLine 37 = .ok (.goto 4, 3) := by decide +kernel
theorem dX6_readLine_40 : decode cX6_readLine 40 = .ok (.iconst 0, 1) := by decide +kernel
theorem dX6_readLine_41 : decode cX6_readLine 41 = .ok (.ireturn, 1) := by decide +kernel
theorem dX6_readLine_42 : decode cX6_readLine 42 = .ok (.aload_n 0, 1) := by decide +kernel
theorem dX6_readLine_43 : decode cX6_readLine 43 = .ok (.getfield 43, 3) := by decide +kernel
theorem dX6_readLine_46 : decode cX6_readLine 46 = .ok (.iload_n 1, 1) := by decide +kernel
theorem dX6_readLine_47 : decode cX6_readLine 47 = .ok (.ishr, 1) := by decide +kernel
theorem dX6_readLine_48 : decode cX6_readLine 48 = .ok (.iconst 1, 1) := by decide +kernel
theorem dX6_readLine_49 : decode cX6_readLine 49 = .ok (.iand, 1) := by decide +kernel
theorem dX6_readLine_50 : decode cX6_readLine 50 = .ok (.iconst 1, 1) := by decide +kernel
theorem dX6_readLine_51 : decode cX6_readLine 51 = .ok (.if_icmp .ne 9, 3) := by decide +kernel
theorem dX6_readLine_54 : decode cX6_readLine 54 = .ok (.aload_n 0, 1) := by decide +kernel
theorem dX6_readLine_55 : decode cX6_readLine 55 = .ok (.iconst 5, 1) := by decide +kernel
theorem dX6_readLine_56 : decode cX6_readLine 56 = .ok (.invokevirtual 150, 3) := by decide +kernel
theorem dX6_readLine_59 : decode cX6_readLine 59 = .ok (.ireturn, 1) := by decide +kernel
theorem dX6_readLine_60 : decode cX6_readLine 60 = .ok (.aload_n 0, 1) := by decide +kernel
theorem dX6_readLine_61 : decode cX6_readLine 61 = .ok (.dup, 1) := by decide +kernel
theorem dX6_readLine_62 : decode cX6_readLine 62 = .ok (.getfield 43, 3) := by decide +kernel
theorem dX6_readLine_65 : decode cX6_readLine 65 = .ok (.iconst 1, 1) := by decide +kernel
theorem dX6_readLine_66 : decode cX6_readLine 66 = .ok (.iload_n 1, 1) := by decide +kernel
theorem dX6_readLine_67 : decode cX6_readLine 67 = .ok (.ishl, 1) := by decide +kernel
theorem dX6_readLine_68 : decode cX6_readLine 68 = .ok (.ior, 1) := by decide +kernel
theorem dX6_readLine_69 : decode cX6_readLine 69 = .ok (.putfield 43, 3) := by decide +kernel
theorem dX6_readLine_72 : decode cX6_readLine 72 = .ok (.aload_n 0, 1) := by decide +kernel
theorem dX6_readLine_73 : decode cX6_readLine 73 = .ok (.invokevirtual 75, 3) := by decide +kernel
theorem dX6_readLine_76 : decode cX6_readLine 76 = .ok (.iload_n 1, 1) := by decide +kernel
theorem dX6_readLine_77 : decode cX6_readLine 77 = .ok (.tableswitch 157 4 8 #[35, 110, 60, 85, 130], 35) := by decide +kernel
theorem dX6_readLine_112 : decode cX6_readLine 112 = .ok (.aload_n 0, 1) := by decide +kernel
theorem dX6_readLine_113 : decode cX6_readLine 113 = .ok (.iload_n 1, 1) := by decide +kernel
theorem dX6_readLine_114 : decode cX6_readLine 114 = .ok (.bipush 10, 2) := by decide +kernel
theorem dX6_readLine_116 : decode cX6_readLine 116 = .ok (.bipush 9, 2) := by decide +kernel
theorem dX6_readLine_118 : decode cX6_readLine 118 = .ok (.invokevirtual 159, 3) := by decide +kernel
theorem dX6_readLine_121 : decode cX6_readLine 121 = .ok (.ifCond .eq 14, 3) := by decide +kernel
theorem dX6_readLine_124 : decode cX6_readLine 124 = .ok (.aload_n 0, 1) := by decide +kernel
theorem dX6_readLine_125 : decode cX6_readLine 125 = .ok (.invokevirtual 156, 3) := by decide +kernel
theorem dX6_readLine_128 : decode cX6_readLine 128 = .ok (.ifCond .eq 7, 3) := by decide +kernel
theorem dX6_readLine_131 : decode cX6_readLine 131 = .ok (.iconst 1, 1) := by decide +kernel
theorem dX6_readLine_132 : decode cX6_readLine 132 = .ok (.goto 4, 3) := by decide +kernel
theorem dX6_readLine_135 : decode cX6_readLine 135 = .ok (.iconst 0, 1) := by decide +kernel
theorem dX6_readLine_136 : decode cX6_readLine 136 = .ok (.ireturn, 1) := by decide +kernel
theorem dX6_readLine_137 : decode cX6_readLine 137 = .ok (.aload_n 0, 1) := by decide +kernel
theorem dX6_readLine_138 : decode cX6_readLine 138 = .ok (.iload_n 1, 1) := by decide +kernel
theorem dX6_readLine_139 : decode cX6_readLine 139 = .ok (.bipush 8, 2) := by decide +kernel
theorem dX6_readLine_141 : decode cX6_readLine 141 = .ok (.bipush 15, 2) := by decide +kernel
theorem dX6_readLine_143 : decode cX6_readLine 143 = .ok (.invokevirtual 159, 3) := by decide +kernel
theorem dX6_readLine_146 : decode cX6_readLine 146 = .ok (.ifCond .eq 14, 3) := by decide +kernel
theorem dX6_readLine_149 : decode cX6_readLine 149 = .ok (.aload_n 0, 1) := by decide +kernel
theorem dX6_readLine_150 : decode cX6_readLine 150 = .ok (.invokevirtual 156, 3) := by decide +kernel
theorem dX6_readLine_153 : decode cX6_readLine 153 = .ok (.ifCond .eq 7, 3) := by decide +kernel
theorem dX6_readLine_156 : decode cX6_readLine 156 = .ok (.iconst 1, 1) := by decide +kernel
theorem dX6_readLine_157 : decode cX6_readLine 157 = .ok (.goto 4, 3) := by decide +kernel
theorem dX6_readLine_160 : decode cX6_readLine 160 = .ok (.iconst 0, 1) := by decide +kernel
theorem dX6_readLine_161 : decode cX6_readLine 161 = .ok (.ireturn, 1) := by decide +kernel
theorem dX6_readLine_162 : decode cX6_readLine 162 = .ok (.aload_n 0, 1) := by decide +kernel
theorem dX6_readLine_163 : decode cX6_readLine 163 = .ok (.iload_n 1, 1) := by decide +kernel
theorem dX6_readLine_164 : decode cX6_readLine 164 = .ok (.bipush 12, 2) := by decide +kernel
theorem dX6_readLine_166 : decode cX6_readLine 166 = .ok (.bipush 31, 2) := by decide +kernel
theorem dX6_readLine_168 : decode cX6_readLine 168 = .ok (.invokevirtual 159, 3) := by decide +kernel
theorem dX6_readLine_171 : decode cX6_readLine 171 = .ok (.ifCond .eq 14, 3) := by decide +kernel
theorem dX6_readLine_174 : decode cX6_readLine 174 = .ok (.aload_n 0, 1) := by decide +kernel
theorem dX6_readLine_175 : decode cX6_readLine 175 = .ok (.invokevirtual 156, 3) := by decide +kernel
theorem dX6_readLine_178 : decode cX6_readLine 178 = .ok (.ifCond .eq 7, 3) := by decide +kernel
theorem dX6_readLine_181 : decode cX6_readLine 181 = .ok (.iconst 1, 1) := by decide +kernel
theorem dX6_readLine_182 : decode cX6_readLine 182 = .ok (.goto 4, 3) := by decide +kernel
theorem dX6_readLine_185 : decode cX6_readLine 185 = .ok (.iconst 0, 1) := by decide +kernel
theorem dX6_readLine_186 : decode cX6_readLine 186 = .ok (.ireturn, 1) := by decide +kernel
theorem dX6_readLine_187 : decode cX6_readLine 187 = .ok (.aload_n 0, 1) := by decide +kernel
theorem dX6_readLine_188 : decode cX6_readLine 188 = .ok (.invokevirtual 163, 3) := by decide +kernel
theorem dX6_readLine_191 : decode cX6_readLine 191 = .ok (.ifCond .eq 14, 3) := by decide +kernel
theorem dX6_readLine_194 : decode cX6_readLine 194 = .ok (.aload_n 0, 1) := by decide +kernel
theorem dX6_readLine_195 : decode cX6_readLine 195 = .ok (.invokevirtual 156, 3) := by decide +kernel
theorem dX6_readLine_198 : decode cX6_readLine 198 = .ok (.ifCond .eq 7, 3) := by decide +kernel
theorem dX6_readLine_201 : decode cX6_readLine 201 = .ok (.iconst 1, 1) := by decide +kernel
theorem dX6_readLine_202 : decode cX6_readLine 202 = .ok (.goto 4, 3) := by decide +kernel
theorem dX6_readLine_205 : decode cX6_readLine 205 = .ok (.iconst 0, 1) := by decide +kernel
theorem dX6_readLine_206 : decode cX6_readLine 206 = .ok (.ireturn, 1) := by decide +kernel
theorem dX6_readLine_207 : decode cX6_readLine 207 = .ok (.aload_n 0, 1) := by decide +kernel
theorem dX6_readLine_208 : decode cX6_readLine 208 = .ok (.aload_n 0, 1) := by decide +kernel
theorem dX6_readLine_209 : decode cX6_readLine 209 = .ok (.getfield 49, 3) := by decide +kernel
theorem dX6_readLine_212 : decode cX6_readLine 212 = .ok (.getfield 53, 3) := by decide +kernel
theorem dX6_readLine_215 : decode cX6_readLine 215 = .ok (.invokevirtual 166, 3) := by decide +kernel
theorem dX6_readLine_218 : decode cX6_readLine 218 = .ok (.ifCond .eq 14, 3) := by decide +kernel
theorem dX6_readLine_221 : decode cX6_readLine 221 = .ok (.aload_n 0, 1) := by decide +kernel
theorem dX6_readLine_222 : decode cX6_readLine 222 = .ok (.invokevirtual 156, 3) := by decide +kernel
theorem dX6_readLine_225 : decode cX6_readLine 225 = .ok (.ifCond .eq 7, 3) := by decide +kernel
theorem dX6_readLine_228 : decode cX6_readLine 228 = .ok (.iconst 1, 1) := by decide +kernel
theorem dX6_readLine_229 : decode cX6_readLine 229 = .ok (.goto 4, 3) := by decide +kernel
theorem dX6_readLine_232 : decode cX6_readLine 232 = .ok (.iconst 0, 1) := by decide +kernel
theorem dX6_readLine_233 : decode cX6_readLine 233 = .ok (.ireturn, 1) := by decide +kernel
theorem dX6_readLine_234 : decode cX6_readLine 234 = .ok (.aload_n 0, 1) := by decide +kernel
theorem dX6_readLine_235 : decode cX6_readLine 235 = .ok (.aload_n 0, 1) := by decide +kernel
theorem dX6_readLine_236 : decode cX6_readLine 236 = .ok (.getfield 49, 3) := by decide +kernel
theorem dX6_readLine_239 : decode cX6_readLine 239 = .ok (.getfield 170, 3) := by decide +kernel
theorem dX6_readLine_242 : decode cX6_readLine 242 = .ok (.invokevirtual 166, 3) := by decide +kernel
theorem dX6_readLine_245 : decode cX6_readLine 245 = .ok (.ifCond .eq 14, 3) := by decide +kernel
theorem dX6_readLine_248 : decode cX6_readLine 248 = .ok (.aload_n 0, 1) := by decide +kernel
theorem dX6_readLine_249 : decode cX6_readLine 249 = .ok (.invokevirtual 156, 3) := by decide +kernel
theorem dX6_readLine_252 : decode cX6_readLine 252 = .ok (.ifCond .eq 7, 3) := by decide +kernel
theorem dX6_readLine_255 : decode cX6_readLine 255 = .ok (.iconst 1, 1) := by decide +kernel
theorem dX6_readLine_256 : decode cX6_readLine 256 = .ok (.goto 4, 3) := by decide +kernel
theorem dX6_readLine_259 : decode cX6_readLine 259 = .ok (.iconst 0, 1) := by decide +kernel
theorem dX6_readLine_260 : decode cX6_readLine 260 = .ok (.ireturn, 1) := by decide +kernel
theorem dX6_readLineEnd_0 : decode cX6_readLineEnd 0 = .ok (.aload_n 0, 1) := by decide +kernel
theorem dX6_readLineEnd_1 : decode cX6_readLineEnd 1 = .ok (.bipush 59, 2) := by decide +kernel
theorem dX6_readLineEnd_3 : decode cX6_readLineEnd 3 = .ok (.invokevirtual 173, 3) := by decide +kernel
theorem dX6_readLineEnd_6 : decode cX6_readLineEnd 6 = .ok (.ifCond .ne 9, 3) := by decide +kernel
theorem dX6_readLineEnd_9 : decode cX6_readLineEnd 9 = .ok (.aload_n 0, 1) := by decide +kernel
theorem dX6_readLineEnd_10 : decode cX6_readLineEnd 10 = .ok (.iconst 1, 1) := by decide +kernel
theorem dX6_readLineEnd_11 : decode cX6_readLineEnd 11 = .ok (.invokevirtual 150, 3) := by decide +kernel
theorem dX6_readLineEnd_14 : decode cX6_readLineEnd 14 = .ok (.ireturn, 1) := by decide +kernel
theorem dX6_readLineEnd_15 : decode cX6_readLineEnd 15 = .ok (.aload_n 0, 1) := by decide +kernel
theorem dX6_readLineEnd_16 : decode cX6_readLineEnd 16 = .ok (.invokevirtual 75, 3) := by decide +kernel
theorem dX6_readLineEnd_19 : decode cX6_readLineEnd 19 = .ok (.iconst 1, 1) := by decide +kernel
theorem dX6_readLineEnd_20 : decode cX6_readLineEnd 20 = .ok (.ireturn, 1) := by decide +kernel
theorem dX6_checkNumber_0 : decode cX6_checkNumber 0 = .ok (.aload_n 0, 1) := by decide +kernel
theorem dX6_checkNumber_1 : decode cX6_checkNumber 1 = .ok (.getfield 25, 3) := by decide +kernel
theorem dX6_checkNumber_4 : decode cX6_checkNumber 4 = .ok (.iconst 2, 1) := by decide +kernel
theorem dX6_checkNumber_5 : decode cX6_checkNumber 5 = .ok (.if_icmp .eq 9, 3) := by decide +kernel
theorem dX6_checkNumber_8 : decode cX6_checkNumber 8 = .ok (.aload_n 0, 1) := by decide +kernel
theorem dX6_checkNumber_9 : decode cX6_checkNumber 9 = .ok (.iconst 1, 1) := by decide +kernel
theorem dX6_checkNumber_10 : decode cX6_checkNumber 10 = .ok (.invokevirtual 150, 3) := by decide +kernel
theorem dX6_checkNumber_13 : decode cX6_checkNumber 13 = .ok (.ireturn, 1) := by decide +kernel
theorem dX6_checkNumber_14 : decode cX6_checkNumber 14 = .ok (.aload_n 0, 1) := by decide +kernel
theorem dX6_checkNumber_15 : decode cX6_checkNumber 15 = .ok (.getfield 34, 3) := by decide +kernel
theorem dX6_checkNumber_18 : decode cX6_checkNumber 18 = .ok (.iconst 4, 1) := by decide +kernel
theorem dX6_checkNumber_19 : decode cX6_checkNumber 19 = .ok (.if_icmp .gt 19, 3) := by decide +kernel
theorem dX6_checkNumber_22 : decode cX6_checkNumber 22 = .ok (.aload_n 0, 1) := by decide +kernel
theorem dX6_checkNumber_23 : decode cX6_checkNumber 23 = .ok (.getfield 37, 3) := by decide +kernel
theorem dX6_checkNumber_26 : decode cX6_checkNumber 26 = .ok (.iload_n 1, 1) := by decide +kernel
theorem dX6_checkNumber_27 : decode cX6_checkNumber 27 = .ok (.if_icmp .lt 11, 3) := by decide +kernel
theorem dX6_checkNumber_30 : decode cX6_checkNumber 30 = .ok (.aload_n 0, 1) := by decide +kernel
theorem dX6_checkNumber_31 : decode cX6_checkNumber 31 = .ok (.getfield 37, 3) := by decide +kernel
theorem dX6_checkNumber_34 : decode cX6_checkNumber 34 = .ok (.iload_n 2, 1) := by decide +kernel
theorem dX6_checkNumber_35 : decode cX6_checkNumber 35 = .ok (.if_icmp .le 11, 3) := by decide +kernel
theorem dX6_checkNumber_38 : decode cX6_checkNumber 38 = .ok (.aload_n 0, 1) := by decide +kernel
theorem dX6_checkNumber_39 : decode cX6_checkNumber 39 = .ok (.iconst 2, 1) := by decide +kernel
theorem dX6_checkNumber_40 : decode cX6_checkNumber 40 = .ok (.invokevirtual 150, 3) := by decide +kernel
theorem dX6_checkNumber_43 : decode cX6_checkNumber 43 = .ok (.ifCond .eq 7, 3) := by decide +kernel
theorem dX6_checkNumber_46 : decode cX6_checkNumber 46 = .ok (.iconst 1, 1) := by decide +kernel
theorem dX6_checkNumber_47 : decode cX6_checkNumber 47 = .ok (.goto 4, 3) := by decide +kernel
theorem dX6_checkNumber_50 : decode cX6_checkNumber 50 = .ok (.iconst 0, 1) := by decide +kernel
theorem dX6_checkNumber_51 : decode cX6_checkNumber 51 = .ok (.ireturn, 1) := by decide +kernel
theorem dX6_readLasts_0 : decode cX6_readLasts 0 = .ok (.aload_n 0, 1) := by decide +kernel
theorem dX6_readLasts_1 : decode cX6_readLasts 1 = .ok (.iconst 1, 1) := by decide +kernel
theorem dX6_readLasts_2 : decode cX6_readLasts 2 = .ok (.bipush 99, 2) := by decide +kernel
theorem dX6_readLasts_4 : decode cX6_readLasts 4 = .ok (.invokevirtual 176, 3) := by decide +kernel
theorem dX6_readLasts_7 : decode cX6_readLasts 7 = .ok (.ifCond .ne 5, 3) := by decide +kernel
theorem dX6_readLasts_10 : decode cX6_readLasts 10 = .ok (.iconst 0, 1) := by decide +kernel
theorem dX6_readLasts_11 : decode cX6_readLasts 11 = .ok (.ireturn, 1) := by decide +kernel
theorem dX6_readLasts_12 : decode cX6_readLasts 12 = .ok (.aload_n 0, 1) := by decide +kernel
theorem dX6_readLasts_13 : decode cX6_readLasts 13 = .ok (.getfield 49, 3) := by decide +kernel
theorem dX6_readLasts_16 : decode cX6_readLasts 16 = .ok (.aload_n 0, 1) := by decide +kernel
theorem dX6_readLasts_17 : decode cX6_readLasts 17 = .ok (.getfield 37, 3) := by decide +kernel
theorem dX6_readLasts_20 : decode cX6_readLasts 20 = .ok (.putfield 180, 3) := by decide +kernel
theorem dX6_readLasts_23 : decode cX6_readLasts 23 = .ok (.aload_n 0, 1) := by decide +kernel
theorem dX6_readLasts_24 : decode cX6_readLasts 24 = .ok (.invokevirtual 75, 3) := by decide +kernel
theorem dX6_readLasts_27 : decode cX6_readLasts 27 = .ok (.iconst 1, 1) := by decide +kernel
theorem dX6_readLasts_28 : decode cX6_readLasts 28 = .ok (.ireturn, 1) := by decide +kernel
theorem dX6_readRow_0 : decode cX6_readRow 0 = .ok (.aload_n 0, 1) := by decide +kernel
theorem dX6_readRow_1 : decode cX6_readRow 1 = .ok (.getfield 25, 3) := by decide +kernel
theorem dX6_readRow_4 : decode cX6_readRow 4 = .ok (.iconst 2, 1) := by decide +kernel
theorem dX6_readRow_5 : decode cX6_readRow 5 = .ok (.if_icmp .eq 9, 3) := by decide +kernel
theorem dX6_readRow_8 : decode cX6_readRow 8 = .ok (.aload_n 0, 1) := by decide +kernel
theorem dX6_readRow_9 : decode cX6_readRow 9 = .ok (.iconst 1, 1) := by decide +kernel
theorem dX6_readRow_10 : decode cX6_readRow 10 = .ok (.invokevirtual 150, 3) := by decide +kernel
theorem dX6_readRow_13 : decode cX6_readRow 13 = .ok (.ireturn, 1) := by decide +kernel
theorem dX6_readRow_14 : decode cX6_readRow 14 = .ok (.iconst 0, 1) := by decide +kernel
theorem dX6_readRow_15 : decode cX6_readRow 15 = .ok (.istore 4, 2) := by decide +kernel
theorem dX6_readRow_17 : decode cX6_readRow 17 = .ok (.iload 4, 2) := by decide +kernel
theorem dX6_readRow_19 : decode cX6_readRow 19 = .ok (.iload_n 2, 1) := by decide +kernel
theorem dX6_readRow_20 : decode cX6_readRow 20 = .ok (.if_icmp .gt 116, 3) := by decide +kernel
theorem dX6_readRow_23 : decode cX6_readRow 23 = .ok (.aload_n 0, 1) := by decide +kernel
theorem dX6_readRow_24 : decode cX6_readRow 24 = .ok (.getfield 25, 3) := by decide +kernel
theorem dX6_readRow_27 : decode cX6_readRow 27 = .ok (.iconst 2, 1) := by decide +kernel
theorem dX6_readRow_28 : decode cX6_readRow 28 = .ok (.if_icmp .ne 108, 3) := by decide +kernel
theorem dX6_readRow_31 : decode cX6_readRow 31 = .ok (.iload 4, 2) := by decide +kernel
theorem dX6_readRow_33 : decode cX6_readRow 33 = .ok (.iload_n 2, 1) := by decide +kernel
theorem dX6_readRow_34 : decode cX6_readRow 34 = .ok (.if_icmp .ne 9, 3) := by decide +kernel
theorem dX6_readRow_37 : decode cX6_readRow 37 = .ok (.aload_n 0, 1) := by decide +kernel
theorem dX6_readRow_38 : decode cX6_readRow 38 = .ok (.iconst 2, 1) := by decide +kernel
theorem dX6_readRow_39 : decode cX6_readRow 39 = .ok (.invokevirtual 150, 3) := by decide +kernel
theorem dX6_readRow_42 : decode cX6_readRow 42 = .ok (.ireturn, 1) := by decide +kernel
theorem dX6_readRow_43 : decode cX6_readRow 43 = .ok (.aload_n 0, 1) := by decide +kernel
theorem dX6_readRow_44 : decode cX6_readRow 44 = .ok (.iconst 0, 1) := by decide +kernel
theorem dX6_readRow_45 : decode cX6_readRow 45 = .ok (.iload_n 3, 1) := by decide +kernel
theorem dX6_readRow_46 : decode cX6_readRow 46 = .ok (.invokevirtual 176, 3) := by decide +kernel
theorem dX6_readRow_49 : decode cX6_readRow 49 = .ok (.ifCond .ne 5, 3) := by decide +kernel
theorem dX6_readRow_52 : decode cX6_readRow 52 = .ok (.iconst 0, 1) := by decide +kernel
theorem dX6_readRow_53 : decode cX6_readRow 53 = .ok (.ireturn, 1) := by decide +kernel
theorem dX6_readRow_54 : decode cX6_readRow 54 = .ok (.iload_n 1, 1) := by decide +kernel
theorem dX6_readRow_55 : decode cX6_readRow 55 = .ok (.bipush 7, 2) := by decide +kernel
theorem dX6_readRow_57 : decode cX6_readRow 57 = .ok (.if_icmp .ne 19, 3) := by decide +kernel
theorem dX6_readRow_60 : decode cX6_readRow 60 = .ok (.aload_n 0, 1) := by decide +kernel
theorem dX6_readRow_61 : decode cX6_readRow 61 = .ok (.getfield 37, 3) := by decide +kernel
theorem dX6_readRow_64 : decode cX6_readRow 64 = .ok (.invokestatic 183, 3) := by decide +kernel
theorem dX6_readRow_67 : decode cX6_readRow 67 = .ok (.ifCond .ne 9, 3) := by decide +kernel
theorem dX6_readRow_70 : decode cX6_readRow 70 = .ok (.aload_n 0, 1) := by decide +kernel
theorem dX6_readRow_71 : decode cX6_readRow 71 = .ok (.iconst 2, 1) := by decide +kernel
theorem dX6_readRow_72 : decode cX6_readRow 72 = .ok (.invokevirtual 150, 3) := by decide +kernel
theorem dX6_readRow_75 : decode cX6_readRow 75 = .ok (.ireturn, 1) := by decide +kernel
theorem dX6_readRow_76 : decode cX6_readRow 76 = .ok (.iload_n 1, 1) := by decide +kernel
theorem dX6_readRow_77 : decode cX6_readRow 77 = .ok (.iconst 4, 1) := by decide +kernel
theorem dX6_readRow_78 : decode cX6_readRow 78 = .ok (.if_icmp .ne 17, 3) := by decide +kernel
theorem dX6_readRow_81 : decode cX6_readRow 81 = .ok (.aload_n 0, 1) := by decide +kernel
theorem dX6_readRow_82 : decode cX6_readRow 82 = .ok (.getfield 49, 3) := by decide +kernel
theorem dX6_readRow_85 : decode cX6_readRow 85 = .ok (.aload_n 0, 1) := by decide +kernel
theorem dX6_readRow_86 : decode cX6_readRow 86 = .ok (.getfield 37, 3) := by decide +kernel
theorem dX6_readRow_89 : decode cX6_readRow 89 = .ok (.invokevirtual 186, 3) := by decide +kernel
theorem dX6_readRow_92 : decode cX6_readRow 92 = .ok (.goto 34, 3) := by decide +kernel
theorem dX6_readRow_95 : decode cX6_readRow 95 = .ok (.iload_n 1, 1) := by decide +kernel
theorem dX6_readRow_96 : decode cX6_readRow 96 = .ok (.bipush 6, 2) := by decide +kernel
theorem dX6_readRow_98 : decode cX6_readRow 98 = .ok (.if_icmp .ne 17, 3) := by decide +kernel
theorem dX6_readRow_101 : decode cX6_readRow 101 = .ok (.aload_n 0, 1) := by decide +kernel
theorem dX6_readRow_102 : decode cX6_readRow 102 = .ok (.getfield 49, 3) := by decide +kernel
theorem dX6_readRow_105 : decode cX6_readRow 105 = .ok (.aload_n 0, 1) := by decide +kernel
theorem dX6_readRow_106 : decode cX6_readRow 106 = .ok (.getfield 37, 3) := by decide +kernel
theorem dX6_readRow_109 : decode cX6_readRow 109 = .ok (.invokevirtual 190, 3) := by decide +kernel
theorem dX6_readRow_112 : decode cX6_readRow 112 = .ok (.goto 14, 3) := by decide +kernel
theorem dX6_readRow_115 : decode cX6_readRow 115 = .ok (.aload_n 0, 1) := by decide +kernel
theorem dX6_readRow_116 : decode cX6_readRow 116 = .ok (.getfield 49, 3) := by decide +kernel
theorem dX6_readRow_119 : decode cX6_readRow 119 = .ok (.aload_n 0, 1) := by decide +kernel
theorem dX6_readRow_120 : decode cX6_readRow 120 = .ok (.getfield 37, 3) := by decide +kernel
theorem dX6_readRow_123 : decode cX6_readRow 123 = .ok (.invokevirtual 193, 3) := by decide +kernel
theorem dX6_readRow_126 : decode cX6_readRow 126 = .ok (.aload_n 0, 1) := by decide +kernel
theorem dX6_readRow_127 : decode cX6_readRow 127 = .ok (.invokevirtual 75, 3) := by decide +kernel
theorem dX6_readRow_130 : decode cX6_readRow 130 = .ok (.iinc 4 1, 3) := by decide +kernel
theorem dX6_readRow_133 : decode cX6_readRow 133 = .ok (.goto (-116), 3) := by decide +kernel
theorem dX6_readRow_136 : decode cX6_readRow 136 = .ok (.iconst 1, 1) := by decide +kernel
theorem dX6_readRow_137 : decode cX6_readRow 137 = .ok (.ireturn, 1) := by decide +kernel
theorem dX6_readRoot_0 : decode cX6_readRoot 0 = .ok (.aload_n 0, 1) := by decide +kernel
theorem dX6_readRoot_1 : decode cX6_readRoot 1 = .ok (.getfield 49, 3) := by decide +kernel
theorem dX6_readRoot_4 : decode cX6_readRoot 4 = .ok (.getfield 196, 3) := by decide +kernel
theorem dX6_readRoot_7 : decode cX6_readRoot 7 = .ok (.bipush 10, 2) := by decide +kernel
theorem dX6_readRoot_9 : decode cX6_readRoot 9 = .ok (.if_icmp .lt 9, 3) := by decide +kernel
theorem dX6_readRoot_12 : decode cX6_readRoot 12 = .ok (.aload_n 0, 1) := by decide +kernel
theorem dX6_readRoot_13 : decode cX6_readRoot 13 = .ok (.iconst 2, 1) := by decide +kernel
theorem dX6_readRoot_14 : decode cX6_readRoot 14 = .ok (.invokevirtual 150, 3) := by decide +kernel
theorem dX6_readRoot_17 : decode cX6_readRoot 17 = .ok (.ireturn, 1) := by decide +kernel
theorem dX6_readRoot_18 : decode cX6_readRoot 18 = .ok (.aload_n 0, 1) := by decide +kernel
theorem dX6_readRoot_19 : decode cX6_readRoot 19 = .ok (.invokevirtual 75, 3) := by decide +kernel
theorem dX6_readRoot_22 : decode cX6_readRoot 22 = .ok (.aload_n 0, 1) := by decide +kernel
theorem dX6_readRoot_23 : decode cX6_readRoot 23 = .ok (.iconst 1, 1) := by decide +kernel
theorem dX6_readRoot_24 : decode cX6_readRoot 24 = .ok (.bipush 60, 2) := by decide +kernel
theorem dX6_readRoot_26 : decode cX6_readRoot 26 = .ok (.invokevirtual 176, 3) := by decide +kernel
theorem dX6_readRoot_29 : decode cX6_readRoot 29 = .ok (.ifCond .ne 5, 3) := by decide +kernel
theorem dX6_readRoot_32 : decode cX6_readRoot 32 = .ok (.iconst 0, 1) := by decide +kernel
theorem dX6_readRoot_33 : decode cX6_readRoot 33 = .ok (.ireturn, 1) := by decide +kernel
theorem dX6_readRoot_34 : decode cX6_readRoot 34 = .ok (.aload_n 0, 1) := by decide +kernel
theorem dX6_readRoot_35 : decode cX6_readRoot 35 = .ok (.getfield 37, 3) := by decide +kernel
theorem dX6_readRoot_38 : decode cX6_readRoot 38 = .ok (.istore_n 2, 1) := by decide +kernel
theorem dX6_readRoot_39 : decode cX6_readRoot 39 = .ok (.aload_n 0, 1) := by decide +kernel
theorem dX6_readRoot_40 : decode cX6_readRoot 40 = .ok (.invokevirtual 75, 3) := by decide +kernel
theorem dX6_readRoot_43 : decode cX6_readRoot 43 = .ok (.aload_n 0, 1) := by decide +kernel
theorem dX6_readRoot_44 : decode cX6_readRoot 44 = .ok (.iconst 0, 1) := by decide +kernel
theorem dX6_readRoot_45 : decode cX6_readRoot 45 = .ok (.bipush 20, 2) := by decide +kernel
theorem dX6_readRoot_47 : decode cX6_readRoot 47 = .ok (.iload_n 2, 1) := by decide +kernel
theorem dX6_readRoot_48 : decode cX6_readRoot 48 = .ok (.iconst 1, 1) := by decide +kernel
theorem dX6_readRoot_49 : decode cX6_readRoot 49 = .ok (.isub, 1) := by decide +kernel
theorem dX6_readRoot_50 : decode cX6_readRoot 50 = .ok (.invokestatic 199, 3) := by decide +kernel
theorem dX6_readRoot_53 : decode cX6_readRoot 53 = .ok (.invokevirtual 176, 3) := by decide +kernel
theorem dX6_readRoot_56 : decode cX6_readRoot 56 = .ok (.ifCond .ne 5, 3) := by decide +kernel
theorem dX6_readRoot_59 : decode cX6_readRoot 59 = .ok (.iconst 0, 1) := by decide +kernel
theorem dX6_readRoot_60 : decode cX6_readRoot 60 = .ok (.ireturn, 1) := by decide +kernel
theorem dX6_readRoot_61 : decode cX6_readRoot 61 = .ok (.aload_n 0, 1) := by decide +kernel
theorem dX6_readRoot_62 : decode cX6_readRoot 62 = .ok (.getfield 37, 3) := by decide +kernel
theorem dX6_readRoot_65 : decode cX6_readRoot 65 = .ok (.istore_n 3, 1) := by decide +kernel
theorem dX6_readRoot_66 : decode cX6_readRoot 66 = .ok (.aload_n 0, 1) := by decide +kernel
theorem dX6_readRoot_67 : decode cX6_readRoot 67 = .ok (.invokevirtual 75, 3) := by decide +kernel
theorem dX6_readRoot_70 : decode cX6_readRoot 70 = .ok (.iconst (-1), 1) := by decide +kernel
theorem dX6_readRoot_71 : decode cX6_readRoot 71 = .ok (.istore 4, 2) := by decide +kernel
theorem dX6_readRoot_73 : decode cX6_readRoot 73 = .ok (.aload_n 0, 1) := by decide +kernel
theorem dX6_readRoot_74 : decode cX6_readRoot 74 = .ok (.getfield 25, 3) := by decide +kernel
theorem dX6_readRoot_77 : decode cX6_readRoot 77 = .ok (.iconst 2, 1) := by decide +kernel
theorem dX6_readRoot_78 : decode cX6_readRoot 78 = .ok (.if_icmp .ne 53, 3) := by decide +kernel
theorem dX6_readRoot_81 : decode cX6_readRoot 81 = .ok (.aload_n 0, 1) := by decide +kernel
theorem dX6_readRoot_82 : decode cX6_readRoot 82 = .ok (.iconst 0, 1) := by decide +kernel
theorem dX6_readRoot_83 : decode cX6_readRoot 83 = .ok (.iconst 5, 1) := by decide +kernel
theorem dX6_readRoot_84 : decode cX6_readRoot 84 = .ok (.invokevirtual 176, 3) := by decide +kernel
theorem dX6_readRoot_87 : decode cX6_readRoot 87 = .ok (.ifCond .ne 5, 3) := by decide +kernel
theorem dX6_readRoot_90 : decode cX6_readRoot 90 = .ok (.iconst 0, 1) := by decide +kernel
theorem dX6_readRoot_91 : decode cX6_readRoot 91 = .ok (.ireturn, 1) := by decide +kernel
theorem dX6_readRoot_92 : decode cX6_readRoot 92 = .ok (.aload_n 0, 1) := by decide +kernel
theorem dX6_readRoot_93 : decode cX6_readRoot 93 = .ok (.getfield 37, 3) := by decide +kernel
theorem dX6_readRoot_96 : decode cX6_readRoot 96 = .ok (.istore 4, 2) := by decide +kernel
theorem dX6_readRoot_98 : decode cX6_readRoot 98 = .ok (.aload_n 0, 1) := by decide +kernel
theorem dX6_readRoot_99 : decode cX6_readRoot 99 = .ok (.getfield 49, 3) := by decide +kernel
theorem dX6_readRoot_102 : decode cX6_readRoot 102 = .ok (.getfield 205, 3) := by decide +kernel
theorem dX6_readRoot_105 : decode cX6_readRoot 105 = .ok (.iload 4, 2) := by decide +kernel
theorem dX6_readRoot_107 : decode cX6_readRoot 107 = .ok (.aload_n 0, 1) := by decide +kernel
theorem dX6_readRoot_108 : decode cX6_readRoot 108 = .ok (.getfield 49, 3) := by decide +kernel
theorem dX6_readRoot_111 : decode cX6_readRoot 111 = .ok (.getfield 196, 3) := by decide +kernel
theorem dX6_readRoot_114 : decode cX6_readRoot 114 = .ok (.invokevirtual 209, 3) := by decide +kernel
theorem dX6_readRoot_117 : decode cX6_readRoot 117 = .ok (.iconst (-1), 1) := by decide +kernel
theorem dX6_readRoot_118 : decode cX6_readRoot 118 = .ok (.if_icmp .eq 9, 3) := by decide +kernel
theorem dX6_readRoot_121 : decode cX6_readRoot 121 = .ok (.aload_n 0, 1) := by decide +kernel
theorem dX6_readRoot_122 : decode cX6_readRoot 122 = .ok (.iconst 4, 1) := by decide +kernel
theorem dX6_readRoot_123 : decode cX6_readRoot 123 = .ok (.invokevirtual 150, 3) := by decide +kernel
theorem dX6_readRoot_126 : decode cX6_readRoot 126 = .ok (.ireturn, 1) := by decide +kernel
theorem dX6_readRoot_127 : decode cX6_readRoot 127 = .ok (.aload_n 0, 1) := by decide +kernel
theorem dX6_readRoot_128 : decode cX6_readRoot 128 = .ok (.invokevirtual 75, 3) := by decide +kernel
theorem dX6_readRoot_131 : decode cX6_readRoot 131 = .ok (.aload_n 0, 1) := by decide +kernel
theorem dX6_readRoot_132 : decode cX6_readRoot 132 = .ok (.getfield 49, 3) := by decide +kernel
theorem dX6_readRoot_135 : decode cX6_readRoot 135 = .ok (.iload_n 1, 1) := by decide +kernel
theorem dX6_readRoot_136 : decode cX6_readRoot 136 = .ok (.iload_n 2, 1) := by decide +kernel
theorem dX6_readRoot_137 : decode cX6_readRoot 137 = .ok (.iload_n 3, 1) := by decide +kernel
theorem dX6_readRoot_138 : decode cX6_readRoot 138 = .ok (.iload 4, 2) := by decide +kernel
theorem dX6_readRoot_140 : decode cX6_readRoot 140 = .ok (.invokevirtual 214, 3) := by decide +kernel
theorem dX6_readRoot_143 : decode cX6_readRoot 143 = .ok (.iconst 1, 1) := by decide +kernel
theorem dX6_readRoot_144 : decode cX6_readRoot 144 = .ok (.ireturn, 1) := by decide +kernel
theorem dX6_readExpr_0 : decode cX6_readExpr 0 = .ok (.aload_n 0, 1) := by decide +kernel
theorem dX6_readExpr_1 : decode cX6_readExpr 1 = .ok (.aload_n 1, 1) := by decide +kernel
theorem dX6_readExpr_2 : decode cX6_readExpr 2 = .ok (.putfield 57, 3) := by decide +kernel
theorem dX6_readExpr_5 : decode cX6_readExpr 5 = .ok (.aload_n 0, 1) := by decide +kernel
theorem dX6_readExpr_6 : decode cX6_readExpr 6 = .ok (.iconst 2, 1) := by decide +kernel
theorem dX6_readExpr_7 : decode cX6_readExpr 7 = .ok (.putfield 60, 3) := by decide +kernel
theorem dX6_readExpr_10 : decode cX6_readExpr 10 = .ok (.aload_n 0, 1) := by decide +kernel
theorem dX6_readExpr_11 : decode cX6_readExpr 11 = .ok (.iconst 0, 1) := by decide +kernel
theorem dX6_readExpr_12 : decode cX6_readExpr 12 = .ok (.putfield 63, 3) := by decide +kernel
theorem dX6_readExpr_15 : decode cX6_readExpr 15 = .ok (.aload_n 0, 1) := by decide +kernel
theorem dX6_readExpr_16 : decode cX6_readExpr 16 = .ok (.iconst 0, 1) := by decide +kernel
theorem dX6_readExpr_17 : decode cX6_readExpr 17 = .ok (.putfield 66, 3) := by decide +kernel
theorem dX6_readExpr_20 : decode cX6_readExpr 20 = .ok (.aload_n 0, 1) := by decide +kernel
theorem dX6_readExpr_21 : decode cX6_readExpr 21 = .ok (.iconst 0, 1) := by decide +kernel
theorem dX6_readExpr_22 : decode cX6_readExpr 22 = .ok (.putfield 69, 3) := by decide +kernel
theorem dX6_readExpr_25 : decode cX6_readExpr 25 = .ok (.iconst 1, 1) := by decide +kernel
theorem dX6_readExpr_26 : decode cX6_readExpr 26 = .ok (.istore_n 2, 1) := by decide +kernel
theorem dX6_readExpr_27 : decode cX6_readExpr 27 = .ok (.iconst 0, 1) := by decide +kernel
theorem dX6_readExpr_28 : decode cX6_readExpr 28 = .ok (.istore_n 3, 1) := by decide +kernel
theorem dX6_readExpr_29 : decode cX6_readExpr 29 = .ok (.iload_n 3, 1) := by decide +kernel
theorem dX6_readExpr_30 : decode cX6_readExpr 30 = .ok (.sipush 700, 3) := by decide +kernel
theorem dX6_readExpr_33 : decode cX6_readExpr 33 = .ok (.if_icmp .ge 47, 3) := by decide +kernel
theorem dX6_readExpr_36 : decode cX6_readExpr 36 = .ok (.iload_n 2, 1) := by decide +kernel
theorem dX6_readExpr_37 : decode cX6_readExpr 37 = .ok (.ifCond .eq 43, 3) := by decide +kernel
theorem dX6_readExpr_40 : decode cX6_readExpr 40 = .ok (.aload_n 0, 1) := by decide +kernel
theorem dX6_readExpr_41 : decode cX6_readExpr 41 = .ok (.invokevirtual 218, 3) := by decide +kernel
theorem dX6_readExpr_44 : decode cX6_readExpr 44 = .ok (.ifCond .ne 36, 3) := by decide +kernel
theorem dX6_readExpr_47 : decode cX6_readExpr 47 = .ok (.aload_n 0, 1) := by decide +kernel
theorem dX6_readExpr_48 : decode cX6_readExpr 48 = .ok (.getfield 60, 3) := by decide +kernel
theorem dX6_readExpr_51 : decode cX6_readExpr 51 = .ok (.ifCond .ne 10, 3) := by decide +kernel
theorem dX6_readExpr_54 : decode cX6_readExpr 54 = .ok (.aload_n 0, 1) := by decide +kernel
theorem dX6_readExpr_55 : decode cX6_readExpr 55 = .ok (.invokevirtual 221, 3) := by decide +kernel
theorem dX6_readExpr_58 : decode cX6_readExpr 58 = .ok (.goto 7, 3) := by decide +kernel
theorem dX6_readExpr_61 : decode cX6_readExpr 61 = .ok (.aload_n 0, 1) := by decide +kernel
theorem dX6_readExpr_62 : decode cX6_readExpr 62 = .ok (.invokevirtual 224, 3) := by decide +kernel
theorem dX6_readExpr_65 : decode cX6_readExpr 65 = .ok (.istore_n 2, 1) := by decide +kernel
theorem dX6_readExpr_66 : decode cX6_readExpr 66 = .ok (.iload_n 2, 1) := by decide +kernel
theorem dX6_readExpr_67 : decode cX6_readExpr 67 = .ok (.ifCond .eq 7, 3) := by decide +kernel
theorem dX6_readExpr_70 : decode cX6_readExpr 70 = .ok (.aload_n 0, 1) := by decide +kernel
theorem dX6_readExpr_71 : decode cX6_readExpr 71 = .ok (.invokevirtual 75, 3) := by decide +kernel
theorem dX6_readExpr_74 : decode cX6_readExpr 74 = .ok (.iinc 3 1, 3) := by decide +kernel
theorem dX6_readExpr_77 : decode cX6_readExpr 77 = .ok (.goto (-48), 3) := by decide +kernel
theorem dX6_readExpr_80 : decode cX6_readExpr 80 = .ok (.aload_n 0, 1) := by decide +kernel
theorem dX6_readExpr_81 : decode cX6_readExpr 81 = .ok (.getfield 57, 3) := by decide +kernel
theorem dX6_readExpr_84 : decode cX6_readExpr 84 = .ok (.invokevirtual 227, 3) := by decide +kernel
theorem dX6_readExpr_87 : decode cX6_readExpr 87 = .ok (.iload_n 2, 1) := by decide +kernel
theorem dX6_readExpr_88 : decode cX6_readExpr 88 = .ok (.ireturn, 1) := by decide +kernel
theorem dX6_isExprWhole_0 : decode cX6_isExprWhole 0 = .ok (.aload_n 0, 1) := by decide +kernel
theorem dX6_isExprWhole_1 : decode cX6_isExprWhole 1 = .ok (.getfield 60, 3) := by decide +kernel
theorem dX6_isExprWhole_4 : decode cX6_isExprWhole 4 = .ok (.ifCond .ne 23, 3) := by decide +kernel
theorem dX6_isExprWhole_7 : decode cX6_isExprWhole 7 = .ok (.aload_n 0, 1) := by decide +kernel
theorem dX6_isExprWhole_8 : decode cX6_isExprWhole 8 = .ok (.getfield 63, 3) := by decide +kernel
theorem dX6_isExprWhole_11 : decode cX6_isExprWhole 11 = .ok (.ifCond .ne 16, 3) := by decide +kernel
theorem dX6_isExprWhole_14 : decode cX6_isExprWhole 14 = .ok (.aload_n 0, 1) := by decide +kernel
theorem dX6_isExprWhole_15 : decode cX6_isExprWhole 15 = .ok (.bipush 59, 2) := by decide +kernel
theorem dX6_isExprWhole_17 : decode cX6_isExprWhole 17 = .ok (.invokevirtual 173, 3) := by decide +kernel
theorem dX6_isExprWhole_20 : decode cX6_isExprWhole 20 = .ok (.ifCond .eq 7, 3) := by decide +kernel
theorem dX6_isExprWhole_23 : decode cX6_isExprWhole 23 = .ok (.iconst 1, 1) := by decide +kernel
theorem dX6_isExprWhole_24 : decode cX6_isExprWhole 24 = .ok (.goto 4, 3) := by decide +kernel
theorem dX6_isExprWhole_27 : decode cX6_isExprWhole 27 = .ok (.iconst 0, 1) := by decide +kernel
theorem dX6_isExprWhole_28 : decode cX6_isExprWhole 28 = .ok (.ireturn, 1) := by decide +kernel
theorem dX6_readOperand_0 : decode cX6_readOperand 0 = .ok (.aload_n 0, 1) := by decide +kernel
theorem dX6_readOperand_1 : decode cX6_readOperand 1 = .ok (.getfield 63, 3) := by decide +kernel
theorem dX6_readOperand_4 : decode cX6_readOperand 4 = .ok (.bipush 6, 2) := by decide +kernel
theorem dX6_readOperand_6 : decode cX6_readOperand 6 = .ok (.if_icmp .lt 38, 3) := by decide +kernel
theorem dX6_readOperand_9 : decode cX6_readOperand 9 = .ok (.aload_n 0, 1) := by decide +kernel
theorem dX6_readOperand_10 : decode cX6_readOperand 10 = .ok (.aload_n 0, 1) := by decide +kernel
theorem dX6_readOperand_11 : decode cX6_readOperand 11 = .ok (.getfield 25, 3) := by decide +kernel
theorem dX6_readOperand_14 : decode cX6_readOperand 14 = .ok (.iconst 2, 1) := by decide +kernel
theorem dX6_readOperand_15 : decode cX6_readOperand 15 = .ok (.if_icmp .eq 20, 3) := by decide +kernel
theorem dX6_readOperand_18 : decode cX6_readOperand 18 = .ok (.aload_n 0, 1) := by decide +kernel
theorem dX6_readOperand_19 : decode cX6_readOperand 19 = .ok (.getfield 25, 3) := by decide +kernel
theorem dX6_readOperand_22 : decode cX6_readOperand 22 = .ok (.iconst 1, 1) := by decide +kernel
theorem dX6_readOperand_23 : decode cX6_readOperand 23 = .ok (.if_icmp .eq 12, 3) := by decide +kernel
theorem dX6_readOperand_26 : decode cX6_readOperand 26 = .ok (.aload_n 0, 1) := by decide +kernel
theorem dX6_readOperand_27 : decode cX6_readOperand 27 = .ok (.bipush 40, 2) := by decide +kernel
theorem dX6_readOperand_29 : decode cX6_readOperand 29 = .ok (.invokevirtual 173, 3) := by decide +kernel
theorem dX6_readOperand_32 : decode cX6_readOperand 32 = .ok (.ifCond .eq 7, 3) := by decide +kernel
theorem dX6_readOperand_35 : decode cX6_readOperand 35 = .ok (.iconst 2, 1) := by decide +kernel
theorem dX6_readOperand_36 : decode cX6_readOperand 36 = .ok (.goto 4, 3) := by decide +kernel
theorem dX6_readOperand_39 : decode cX6_readOperand 39 = .ok (.iconst 1, 1) := by decide +kernel
theorem dX6_readOperand_40 : decode cX6_readOperand 40 = .ok (.invokevirtual 150, 3) := by decide +kernel
theorem dX6_readOperand_43 : decode cX6_readOperand 43 = .ok (.ireturn, 1) := by decide +kernel
theorem dX6_readOperand_44 : decode cX6_readOperand 44 = .ok (.aload_n 0, 1) := by decide +kernel
theorem dX6_readOperand_45 : decode cX6_readOperand 45 = .ok (.getfield 60, 3) := by decide +kernel
theorem dX6_readOperand_48 : decode cX6_readOperand 48 = .ok (.iconst 2, 1) := by decide +kernel
theorem dX6_readOperand_49 : decode cX6_readOperand 49 = .ok (.if_icmp .ne 54, 3) := by decide +kernel
theorem dX6_readOperand_52 : decode cX6_readOperand 52 = .ok (.aload_n 0, 1) := by decide +kernel
theorem dX6_readOperand_53 : decode cX6_readOperand 53 = .ok (.ldc 232, 2) := by decide +kernel
theorem dX6_readOperand_55 : decode cX6_readOperand 55 = .ok (.invokevirtual 114, 3) := by decide +kernel
theorem dX6_readOperand_58 : decode cX6_readOperand 58 = .ok (.ifCond .eq 45, 3) := by decide +kernel
theorem dX6_readOperand_61 : decode cX6_readOperand 61 = .ok (.aload_n 0, 1) := by decide +kernel
theorem dX6_readOperand_62 : decode cX6_readOperand 62 = .ok (.dup, 1) := by decide +kernel
theorem dX6_readOperand_63 : decode cX6_readOperand 63 = .ok (.getfield 69, 3) := by decide +kernel
theorem dX6_readOperand_66 : decode cX6_readOperand 66 = .ok (.iconst 1, 1) := by decide +kernel
theorem dX6_readOperand_67 : decode cX6_readOperand 67 = .ok (.iadd, 1) := by decide +kernel
theorem dX6_readOperand_68 : decode cX6_readOperand 68 = .ok (.putfield 69, 3) := by decide +kernel
theorem dX6_readOperand_71 : decode cX6_readOperand 71 = .ok (.aload_n 0, 1) := by decide +kernel
theorem dX6_readOperand_72 : decode cX6_readOperand 72 = .ok (.getfield 57, 3) := by decide +kernel
theorem dX6_readOperand_75 : decode cX6_readOperand 75 = .ok (.bipush 30, 2) := by decide +kernel
theorem dX6_readOperand_77 : decode cX6_readOperand 77 = .ok (.invokevirtual 234, 3) := by decide +kernel
theorem dX6_readOperand_80 : decode cX6_readOperand 80 = .ok (.aload_n 0, 1) := by decide +kernel
theorem dX6_readOperand_81 : decode cX6_readOperand 81 = .ok (.getfield 69, 3) := by decide +kernel
theorem dX6_readOperand_84 : decode cX6_readOperand 84 = .ok (.bipush 6, 2) := by decide +kernel
theorem dX6_readOperand_86 : decode cX6_readOperand 86 = .ok (.if_icmp .le 11, 3) := by decide +kernel
theorem dX6_readOperand_89 : decode cX6_readOperand 89 = .ok (.aload_n 0, 1) := by decide +kernel
theorem dX6_readOperand_90 : decode cX6_readOperand 90 = .ok (.iconst 2, 1) := by decide +kernel
theorem dX6_readOperand_91 : decode cX6_readOperand 91 = .ok (.invokevirtual 150, 3) := by decide +kernel
theorem dX6_readOperand_94 : decode cX6_readOperand 94 = .ok (.ifCond .eq 7, 3) := by decide +kernel
theorem dX6_readOperand_97 : decode cX6_readOperand 97 = .ok (.iconst 1, 1) := by decide +kernel
theorem dX6_readOperand_98 : decode cX6_readOperand 98 = .ok (.goto 4, 3) := by decide +kernel
theorem dX6_readOperand_101 : decode cX6_readOperand 101 = .ok (.iconst 0, 1) := by decide +kernel
theorem dX6_readOperand_102 : decode cX6_readOperand 102 = .ok (.ireturn, 1) := by decide +kernel
theorem dX6_readOperand_103 : decode cX6_readOperand 103 = .ok (.aload_n 0, 1) := by decide +kernel
theorem dX6_readOperand_104 : decode cX6_readOperand 104 = .ok (.iconst 0, 1) := by decide +kernel
theorem dX6_readOperand_105 : decode cX6_readOperand 105 = .ok (.putfield 69, 3) := by decide +kernel
theorem dX6_readOperand_108 : decode cX6_readOperand 108 = .ok (.aload_n 0, 1) := by decide +kernel
theorem dX6_readOperand_109 : decode cX6_readOperand 109 = .ok (.bipush 40, 2) := by decide +kernel
theorem dX6_readOperand_111 : decode cX6_readOperand 111 = .ok (.invokevirtual 173, 3) := by decide +kernel
theorem dX6_readOperand_114 : decode cX6_readOperand 114 = .ok (.ifCond .eq 45, 3) := by decide +kernel
theorem dX6_readOperand_117 : decode cX6_readOperand 117 = .ok (.aload_n 0, 1) := by decide +kernel
theorem dX6_readOperand_118 : decode cX6_readOperand 118 = .ok (.getfield 57, 3) := by decide +kernel
theorem dX6_readOperand_121 : decode cX6_readOperand 121 = .ok (.iconst 0, 1) := by decide +kernel
theorem dX6_readOperand_122 : decode cX6_readOperand 122 = .ok (.invokevirtual 234, 3) := by decide +kernel
theorem dX6_readOperand_125 : decode cX6_readOperand 125 = .ok (.aload_n 0, 1) := by decide +kernel
theorem dX6_readOperand_126 : decode cX6_readOperand 126 = .ok (.dup, 1) := by decide +kernel
theorem dX6_readOperand_127 : decode cX6_readOperand 127 = .ok (.getfield 63, 3) := by decide +kernel
theorem dX6_readOperand_130 : decode cX6_readOperand 130 = .ok (.iconst 1, 1) := by decide +kernel
theorem dX6_readOperand_131 : decode cX6_readOperand 131 = .ok (.iadd, 1) := by decide +kernel
theorem dX6_readOperand_132 : decode cX6_readOperand 132 = .ok (.putfield 63, 3) := by decide +kernel
theorem dX6_readOperand_135 : decode cX6_readOperand 135 = .ok (.aload_n 0, 1) := by decide +kernel
theorem dX6_readOperand_136 : decode cX6_readOperand 136 = .ok (.dup, 1) := by decide +kernel
theorem dX6_readOperand_137 : decode cX6_readOperand 137 = .ok (.getfield 66, 3) := by decide +kernel
theorem dX6_readOperand_140 : decode cX6_readOperand 140 = .ok (.iconst 1, 1) := by decide +kernel
theorem dX6_readOperand_141 : decode cX6_readOperand 141 = .ok (.aload_n 0, 1) := by decide +kernel
theorem dX6_readOperand_142 : decode cX6_readOperand 142 = .ok (.getfield 63, 3) := by decide +kernel
theorem dX6_readOperand_145 : decode cX6_readOperand 145 = .ok (.ishl, 1) := by decide +kernel
theorem dX6_readOperand_146 : decode cX6_readOperand 146 = .ok (.iconst (-1), 1) := by decide +kernel
theorem dX6_readOperand_147 : decode cX6_readOperand 147 = .ok (.ixor, 1) := by decide +kernel
theorem dX6_readOperand_148 : decode cX6_readOperand 148 = .ok (.iand, 1) := by decide +kernel
theorem dX6_readOperand_149 : decode cX6_readOperand 149 = .ok (.putfield 66, 3) := by decide +kernel
theorem dX6_readOperand_152 : decode cX6_readOperand 152 = .ok (.aload_n 0, 1) := by decide +kernel
theorem dX6_readOperand_153 : decode cX6_readOperand 153 = .ok (.iconst 2, 1) := by decide +kernel
theorem dX6_readOperand_154 : decode cX6_readOperand 154 = .ok (.putfield 60, 3) := by decide +kernel
theorem dX6_readOperand_157 : decode cX6_readOperand 157 = .ok (.iconst 1, 1) := by decide +kernel
theorem dX6_readOperand_158 : decode cX6_readOperand 158 = .ok (.ireturn, 1) := by decide +kernel
theorem dX6_readOperand_159 : decode cX6_readOperand 159 = .ok (.aload_n 0, 1) := by decide +kernel
theorem dX6_readOperand_160 : decode cX6_readOperand 160 = .ok (.invokevirtual 237, 3) := by decide +kernel
theorem dX6_readOperand_163 : decode cX6_readOperand 163 = .ok (.istore_n 1, 1) := by decide +kernel
theorem dX6_readOperand_164 : decode cX6_readOperand 164 = .ok (.aload_n 0, 1) := by decide +kernel
theorem dX6_readOperand_165 : decode cX6_readOperand 165 = .ok (.getfield 25, 3) := by decide +kernel
theorem dX6_readOperand_168 : decode cX6_readOperand 168 = .ok (.iconst 1, 1) := by decide +kernel
theorem dX6_readOperand_169 : decode cX6_readOperand 169 = .ok (.if_icmp .ne 14, 3) := by decide +kernel
theorem dX6_readOperand_172 : decode cX6_readOperand 172 = .ok (.iload_n 1, 1) := by decide +kernel
theorem dX6_readOperand_173 : decode cX6_readOperand 173 = .ok (.iconst (-1), 1) := by decide +kernel
theorem dX6_readOperand_174 : decode cX6_readOperand 174 = .ok (.if_icmp .ne 9, 3) := by decide +kernel
theorem dX6_readOperand_177 : decode cX6_readOperand 177 = .ok (.aload_n 0, 1) := by decide +kernel
theorem dX6_readOperand_178 : decode cX6_readOperand 178 = .ok (.iconst 3, 1) := by decide +kernel
theorem dX6_readOperand_179 : decode cX6_readOperand 179 = .ok (.invokevirtual 150, 3) := by decide +kernel
theorem dX6_readOperand_182 : decode cX6_readOperand 182 = .ok (.ireturn, 1) := by decide +kernel
theorem dX6_readOperand_183 : decode cX6_readOperand 183 = .ok (.aload_n 0, 1) := by decide +kernel
theorem dX6_readOperand_184 : decode cX6_readOperand 184 = .ok (.getfield 25, 3) := by decide +kernel
theorem dX6_readOperand_187 : decode cX6_readOperand 187 = .ok (.iconst 1, 1) := by decide +kernel
theorem dX6_readOperand_188 : decode cX6_readOperand 188 = .ok (.if_icmp .eq 16, 3) := by decide +kernel
theorem dX6_readOperand_191 : decode cX6_readOperand 191 = .ok (.aload_n 0, 1) := by decide +kernel
theorem dX6_readOperand_192 : decode cX6_readOperand 192 = .ok (.iconst 0, 1) := by decide +kernel
theorem dX6_readOperand_193 : decode cX6_readOperand 193 = .ok (.sipush 9999, 3) := by decide +kernel
theorem dX6_readOperand_196 : decode cX6_readOperand 196 = .ok (.invokevirtual 176, 3) := by decide +kernel
theorem dX6_readOperand_199 : decode cX6_readOperand 199 = .ok (.ifCond .ne 5, 3) := by decide +kernel
theorem dX6_readOperand_202 : decode cX6_readOperand 202 = .ok (.iconst 0, 1) := by decide +kernel
theorem dX6_readOperand_203 : decode cX6_readOperand 203 = .ok (.ireturn, 1) := by decide +kernel
theorem dX6_readOperand_204 : decode cX6_readOperand 204 = .ok (.aload_n 0, 1) := by decide +kernel
theorem dX6_readOperand_205 : decode cX6_readOperand 205 = .ok (.getfield 57, 3) := by decide +kernel
theorem dX6_readOperand_208 : decode cX6_readOperand 208 = .ok (.aload_n 0, 1) := by decide +kernel
theorem dX6_readOperand_209 : decode cX6_readOperand 209 = .ok (.getfield 25, 3) := by decide +kernel
theorem dX6_readOperand_212 : decode cX6_readOperand 212 = .ok (.iconst 1, 1) := by decide +kernel
theorem dX6_readOperand_213 : decode cX6_readOperand 213 = .ok (.if_icmp .ne 7, 3) := by decide +kernel
theorem dX6_readOperand_216 : decode cX6_readOperand 216 = .ok (.iconst 2, 1) := by decide +kernel
theorem dX6_readOperand_217 : decode cX6_readOperand 217 = .ok (.goto 4, 3) := by decide +kernel
theorem dX6_readOperand_220 : decode cX6_readOperand 220 = .ok (.iconst 1, 1) := by decide +kernel
theorem dX6_readOperand_221 : decode cX6_readOperand 221 = .ok (.aload_n 0, 1) := by decide +kernel
theorem dX6_readOperand_222 : decode cX6_readOperand 222 = .ok (.getfield 25, 3) := by decide +kernel
theorem dX6_readOperand_225 : decode cX6_readOperand 225 = .ok (.iconst 1, 1) := by decide +kernel
theorem dX6_readOperand_226 : decode cX6_readOperand 226 = .ok (.if_icmp .ne 7, 3) := by decide +kernel
theorem dX6_readOperand_229 : decode cX6_readOperand 229 = .ok (.iload_n 1, 1) := by decide +kernel
theorem dX6_readOperand_230 : decode cX6_readOperand 230 = .ok (.goto 7, 3) := by decide +kernel
theorem dX6_readOperand_233 : decode cX6_readOperand 233 = .ok (.aload_n 0, 1) := by decide +kernel
theorem dX6_readOperand_234 : decode cX6_readOperand 234 = .ok (.getfield 37, 3) := by decide +kernel
theorem dX6_readOperand_237 : decode cX6_readOperand 237 = .ok (.invokevirtual 240, 3) := by decide +kernel
theorem dX6_readOperand_240 : decode cX6_readOperand 240 = .ok (.aload_n 0, 1) := by decide +kernel
theorem dX6_readOperand_241 : decode cX6_readOperand 241 = .ok (.iconst 0, 1) := by decide +kernel
theorem dX6_readOperand_242 : decode cX6_readOperand 242 = .ok (.putfield 60, 3) := by decide +kernel
theorem dX6_readOperand_245 : decode cX6_readOperand 245 = .ok (.iconst 1, 1) := by decide +kernel
theorem dX6_readOperand_246 : decode cX6_readOperand 246 = .ok (.ireturn, 1) := by decide +kernel
theorem dX6_readOperator_0 : decode cX6_readOperator 0 = .ok (.aload_n 0, 1) := by decide +kernel
theorem dX6_readOperator_1 : decode cX6_readOperator 1 = .ok (.bipush 41, 2) := by decide +kernel
theorem dX6_readOperator_3 : decode cX6_readOperator 3 = .ok (.invokevirtual 173, 3) := by decide +kernel
theorem dX6_readOperator_6 : decode cX6_readOperator 6 = .ok (.ifCond .eq 29, 3) := by decide +kernel
theorem dX6_readOperator_9 : decode cX6_readOperator 9 = .ok (.aload_n 0, 1) := by decide +kernel
theorem dX6_readOperator_10 : decode cX6_readOperator 10 = .ok (.getfield 63, 3) := by decide +kernel
theorem dX6_readOperator_13 : decode cX6_readOperator 13 = .ok (.ifCond .le 22, 3) := by decide +kernel
theorem dX6_readOperator_16 : decode cX6_readOperator 16 = .ok (.aload_n 0, 1) := by decide +kernel
theorem dX6_readOperator_17 : decode cX6_readOperator 17 = .ok (.getfield 57, 3) := by decide +kernel
theorem dX6_readOperator_20 : decode cX6_readOperator 20 = .ok (.invokevirtual 244, 3) := by decide +kernel
theorem dX6_readOperator_23 : decode cX6_readOperator 23 = .ok (.aload_n 0, 1) := by decide +kernel
theorem dX6_readOperator_24 : decode cX6_readOperator 24 = .ok (.dup, 1) := by decide +kernel
theorem dX6_readOperator_25 : decode cX6_readOperator 25 = .ok (.getfield 63, 3) := by decide +kernel
theorem dX6_readOperator_28 : decode cX6_readOperator 28 = .ok (.iconst 1, 1) := by decide +kernel
theorem dX6_readOperator_29 : decode cX6_readOperator 29 = .ok (.isub, 1) := by decide +kernel
theorem dX6_readOperator_30 : decode cX6_readOperator 30 = .ok (.putfield 63, 3) := by decide +kernel
theorem dX6_readOperator_33 : decode cX6_readOperator 33 = .ok (.iconst 1, 1) := by decide +kernel
theorem dX6_readOperator_34 : decode cX6_readOperator 34 = .ok (.ireturn, 1) := by decide +kernel
theorem dX6_readOperator_35 : decode cX6_readOperator 35 = .ok (.aload_n 0, 1) := by decide +kernel
theorem dX6_readOperator_36 : decode cX6_readOperator 36 = .ok (.invokevirtual 247, 3) := by decide +kernel
theorem dX6_readOperator_39 : decode cX6_readOperator 39 = .ok (.istore_n 1, 1) := by decide +kernel
theorem dX6_readOperator_40 : decode cX6_readOperator 40 = .ok (.iload_n 1, 1) := by decide +kernel
theorem dX6_readOperator_41 : decode cX6_readOperator 41 = .ok (.bipush 40, 2) := by decide +kernel
theorem dX6_readOperator_43 : decode cX6_readOperator 43 = .ok (.if_icmp .eq 9, 3) := by decide +kernel
theorem dX6_readOperator_46 : decode cX6_readOperator 46 = .ok (.iload_n 1, 1) := by decide +kernel
theorem dX6_readOperator_47 : decode cX6_readOperator 47 = .ok (.bipush 41, 2) := by decide +kernel
theorem dX6_readOperator_49 : decode cX6_readOperator 49 = .ok (.if_icmp .ne 7, 3) := by decide +kernel
theorem dX6_readOperator_52 : decode cX6_readOperator 52 = .ok (.iconst 1, 1) := by decide +kernel
theorem dX6_readOperator_53 : decode cX6_readOperator 53 = .ok (.goto 4, 3) := by decide +kernel
theorem dX6_readOperator_56 : decode cX6_readOperator 56 = .ok (.iconst 0, 1) := by decide +kernel
theorem dX6_readOperator_57 : decode cX6_readOperator 57 = .ok (.istore_n 2, 1) := by decide +kernel
theorem dX6_readOperator_58 : decode cX6_readOperator 58 = .ok (.iload_n 1, 1) := by decide +kernel
theorem dX6_readOperator_59 : decode cX6_readOperator 59 = .ok (.iconst (-1), 1) := by decide +kernel
theorem dX6_readOperator_60 : decode cX6_readOperator 60 = .ok (.if_icmp .eq 22, 3) := by decide +kernel
theorem dX6_readOperator_63 : decode cX6_readOperator 63 = .ok (.iload_n 2, 1) := by decide +kernel
theorem dX6_readOperator_64 : decode cX6_readOperator 64 = .ok (.ifCond .eq 24, 3) := by decide +kernel
theorem dX6_readOperator_67 : decode cX6_readOperator 67 = .ok (.aload_n 0, 1) := by decide +kernel
theorem dX6_readOperator_68 : decode cX6_readOperator 68 = .ok (.getfield 66, 3) := by decide +kernel
theorem dX6_readOperator_71 : decode cX6_readOperator 71 = .ok (.aload_n 0, 1) := by decide +kernel
theorem dX6_readOperator_72 : decode cX6_readOperator 72 = .ok (.getfield 63, 3) := by decide +kernel
theorem dX6_readOperator_75 : decode cX6_readOperator 75 = .ok (.ishr, 1) := by decide +kernel
theorem dX6_readOperator_76 : decode cX6_readOperator 76 = .ok (.iconst 1, 1) := by decide +kernel
theorem dX6_readOperator_77 : decode cX6_readOperator 77 = .ok (.iand, 1) := by decide +kernel
theorem dX6_readOperator_78 : decode cX6_readOperator 78 = .ok (.iconst 1, 1) := by decide +kernel
theorem dX6_readOperator_79 : decode cX6_readOperator 79 = .ok (.if_icmp .ne 9, 3) := by decide +kernel
theorem dX6_readOperator_82 : decode cX6_readOperator 82 = .ok (.aload_n 0, 1) := by decide +kernel
theorem dX6_readOperator_83 : decode cX6_readOperator 83 = .ok (.iconst 1, 1) := by decide +kernel
theorem dX6_readOperator_84 : decode cX6_readOperator 84 = .ok (.invokevirtual 150, 3) := by decide +kernel
theorem dX6_readOperator_87 : decode cX6_readOperator 87 = .ok (.ireturn, 1) := by decide +kernel
theorem dX6_readOperator_88 : decode cX6_readOperator 88 = .ok (.iload_n 1, 1) := by decide +kernel
theorem dX6_readOperator_89 : decode cX6_readOperator 89 = .ok (.bipush 10, 2) := by decide +kernel
theorem dX6_readOperator_91 : decode cX6_readOperator 91 = .ok (.if_icmp .eq 9, 3) := by decide +kernel
theorem dX6_readOperator_94 : decode cX6_readOperator 94 = .ok (.iload_n 1, 1) := by decide +kernel
theorem dX6_readOperator_95 : decode cX6_readOperator 95 = .ok (.bipush 20, 2) := by decide +kernel
theorem dX6_readOperator_97 : decode cX6_readOperator 97 = .ok (.if_icmp .ne 7, 3) := by decide +kernel
theorem dX6_readOperator_100 : decode cX6_readOperator 100 = .ok (.iconst 1, 1) := by decide +kernel
theorem dX6_readOperator_101 : decode cX6_readOperator 101 = .ok (.goto 4, 3) := by decide +kernel
theorem dX6_readOperator_104 : decode cX6_readOperator 104 = .ok (.iconst 0, 1) := by decide +kernel
theorem dX6_readOperator_105 : decode cX6_readOperator 105 = .ok (.istore_n 3, 1) := by decide +kernel
theorem dX6_readOperator_106 : decode cX6_readOperator 106 = .ok (.iload_n 2, 1) := by decide +kernel
theorem dX6_readOperator_107 : decode cX6_readOperator 107 = .ok (.ifCond .eq 21, 3) := by decide +kernel
theorem dX6_readOperator_110 : decode cX6_readOperator 110 = .ok (.aload_n 0, 1) := by decide +kernel
theorem dX6_readOperator_111 : decode cX6_readOperator 111 = .ok (.dup, 1) := by decide +kernel
theorem dX6_readOperator_112 : decode cX6_readOperator 112 = .ok (.getfield 66, 3) := by decide +kernel
theorem dX6_readOperator_115 : decode cX6_readOperator 115 = .ok (.iconst 1, 1) := by decide +kernel
theorem dX6_readOperator_116 : decode cX6_readOperator 116 = .ok (.aload_n 0, 1) := by decide +kernel
theorem dX6_readOperator_117 : decode cX6_readOperator 117 = .ok (.getfield 63, 3) := by decide +kernel
theorem dX6_readOperator_120 : decode cX6_readOperator 120 = .ok (.ishl, 1) := by decide +kernel
theorem dX6_readOperator_121 : decode cX6_readOperator 121 = .ok (.ior, 1) := by decide +kernel
theorem dX6_readOperator_122 : decode cX6_readOperator 122 = .ok (.putfield 66, 3) := by decide +kernel
theorem dX6_readOperator_125 : decode cX6_readOperator 125 = .ok (.goto 24, 3) := by decide +kernel
theorem dX6_readOperator_128 : decode cX6_readOperator 128 = .ok (.iload_n 3, 1) := by decide +kernel
theorem dX6_readOperator_129 : decode cX6_readOperator 129 = .ok (.ifCond .eq 20, 3) := by decide +kernel
theorem dX6_readOperator_132 : decode cX6_readOperator 132 = .ok (.aload_n 0, 1) := by decide +kernel
theorem dX6_readOperator_133 : decode cX6_readOperator 133 = .ok (.dup, 1) := by decide +kernel
theorem dX6_readOperator_134 : decode cX6_readOperator 134 = .ok (.getfield 66, 3) := by decide +kernel
theorem dX6_readOperator_137 : decode cX6_readOperator 137 = .ok (.iconst 1, 1) := by decide +kernel
theorem dX6_readOperator_138 : decode cX6_readOperator 138 = .ok (.aload_n 0, 1) := by decide +kernel
theorem dX6_readOperator_139 : decode cX6_readOperator 139 = .ok (.getfield 63, 3) := by decide +kernel
theorem dX6_readOperator_142 : decode cX6_readOperator 142 = .ok (.ishl, 1) := by decide +kernel
theorem dX6_readOperator_143 : decode cX6_readOperator 143 = .ok (.iconst (-1), 1) := by decide +kernel
theorem dX6_readOperator_144 : decode cX6_readOperator 144 = .ok (.ixor, 1) := by decide +kernel
theorem dX6_readOperator_145 : decode cX6_readOperator 145 = .ok (.iand, 1) := by decide +kernel
theorem dX6_readOperator_146 : decode cX6_readOperator 146 = .ok (.putfield 66, 3) := by decide +kernel
theorem dX6_readOperator_149 : decode cX6_readOperator 149 = .ok (.aload_n 0, 1) := by decide +kernel
theorem dX6_readOperator_150 : decode cX6_readOperator 150 = .ok (.iload_n 3, 1) := by decide +kernel
theorem dX6_readOperator_151 : decode cX6_readOperator 151 = .ok (.ifCond .eq 7, 3) := by decide +kernel
theorem dX6_readOperator_154 : decode cX6_readOperator 154 = .ok (.iconst 2, 1) := by decide +kernel
theorem dX6_readOperator_155 : decode cX6_readOperator 155 = .ok (.goto 4, 3) := by decide +kernel
theorem dX6_readOperator_158 : decode cX6_readOperator 158 = .ok (.iconst 1, 1) := by decide +kernel
theorem dX6_readOperator_159 : decode cX6_readOperator 159 = .ok (.putfield 60, 3) := by decide +kernel
theorem dX6_readOperator_162 : decode cX6_readOperator 162 = .ok (.aload_n 0, 1) := by decide +kernel
theorem dX6_readOperator_163 : decode cX6_readOperator 163 = .ok (.getfield 57, 3) := by decide +kernel
theorem dX6_readOperator_166 : decode cX6_readOperator 166 = .ok (.iload_n 1, 1) := by decide +kernel
theorem dX6_readOperator_167 : decode cX6_readOperator 167 = .ok (.invokevirtual 234, 3) := by decide +kernel
theorem dX6_readOperator_170 : decode cX6_readOperator 170 = .ok (.iconst 1, 1) := by decide +kernel
theorem dX6_readOperator_171 : decode cX6_readOperator 171 = .ok (.ireturn, 1) := by decide +kernel
theorem dX6_operatorHere_0 : decode cX6_operatorHere 0 = .ok (.aload_n 0, 1) := by decide +kernel
theorem dX6_operatorHere_1 : decode cX6_operatorHere 1 = .ok (.ldc 250, 2) := by decide +kernel
theorem dX6_operatorHere_3 : decode cX6_operatorHere 3 = .ok (.invokevirtual 114, 3) := by decide +kernel
theorem dX6_operatorHere_6 : decode cX6_operatorHere 6 = .ok (.ifCond .eq 8, 3) := by decide +kernel
theorem dX6_operatorHere_9 : decode cX6_operatorHere 9 = .ok (.bipush 10, 2) := by decide +kernel
theorem dX6_operatorHere_11 : decode cX6_operatorHere 11 = .ok (.goto 102, 3) := by decide +kernel
theorem dX6_operatorHere_14 : decode cX6_operatorHere 14 = .ok (.aload_n 0, 1) := by decide +kernel
theorem dX6_operatorHere_15 : decode cX6_operatorHere 15 = .ok (.ldc 252, 2) := by decide +kernel
theorem dX6_operatorHere_17 : decode cX6_operatorHere 17 = .ok (.invokevirtual 114, 3) := by decide +kernel
theorem dX6_operatorHere_20 : decode cX6_operatorHere 20 = .ok (.ifCond .eq 8, 3) := by decide +kernel
theorem dX6_operatorHere_23 : decode cX6_operatorHere 23 = .ok (.bipush 20, 2) := by decide +kernel
theorem dX6_operatorHere_25 : decode cX6_operatorHere 25 = .ok (.goto 88, 3) := by decide +kernel
theorem dX6_operatorHere_28 : decode cX6_operatorHere 28 = .ok (.aload_n 0, 1) := by decide +kernel
theorem dX6_operatorHere_29 : decode cX6_operatorHere 29 = .ok (.bipush 60, 2) := by decide +kernel
theorem dX6_operatorHere_31 : decode cX6_operatorHere 31 = .ok (.invokevirtual 173, 3) := by decide +kernel
theorem dX6_operatorHere_34 : decode cX6_operatorHere 34 = .ok (.ifCond .eq 8, 3) := by decide +kernel
theorem dX6_operatorHere_37 : decode cX6_operatorHere 37 = .ok (.bipush 40, 2) := by decide +kernel
theorem dX6_operatorHere_39 : decode cX6_operatorHere 39 = .ok (.goto 74, 3) := by decide +kernel
theorem dX6_operatorHere_42 : decode cX6_operatorHere 42 = .ok (.aload_n 0, 1) := by decide +kernel
theorem dX6_operatorHere_43 : decode cX6_operatorHere 43 = .ok (.bipush 61, 2) := by decide +kernel
theorem dX6_operatorHere_45 : decode cX6_operatorHere 45 = .ok (.invokevirtual 173, 3) := by decide +kernel
theorem dX6_operatorHere_48 : decode cX6_operatorHere 48 = .ok (.ifCond .eq 8, 3) := by decide +kernel
theorem dX6_operatorHere_51 : decode cX6_operatorHere 51 = .ok (.bipush 41, 2) := by decide +kernel
theorem dX6_operatorHere_53 : decode cX6_operatorHere 53 = .ok (.goto 60, 3) := by decide +kernel
theorem dX6_operatorHere_56 : decode cX6_operatorHere 56 = .ok (.aload_n 0, 1) := by decide +kernel
theorem dX6_operatorHere_57 : decode cX6_operatorHere 57 = .ok (.bipush 43, 2) := by decide +kernel
theorem dX6_operatorHere_59 : decode cX6_operatorHere 59 = .ok (.invokevirtual 173, 3) := by decide +kernel
theorem dX6_operatorHere_62 : decode cX6_operatorHere 62 = .ok (.ifCond .eq 8, 3) := by decide +kernel
theorem dX6_operatorHere_65 : decode cX6_operatorHere 65 = .ok (.bipush 50, 2) := by decide +kernel
theorem dX6_operatorHere_67 : decode cX6_operatorHere 67 = .ok (.goto 46, 3) := by decide +kernel
theorem dX6_operatorHere_70 : decode cX6_operatorHere 70 = .ok (.aload_n 0, 1) := by decide +kernel
theorem dX6_operatorHere_71 : decode cX6_operatorHere 71 = .ok (.bipush 45, 2) := by decide +kernel
theorem dX6_operatorHere_73 : decode cX6_operatorHere 73 = .ok (.invokevirtual 173, 3) := by decide +kernel
theorem dX6_operatorHere_76 : decode cX6_operatorHere 76 = .ok (.ifCond .eq 8, 3) := by decide +kernel
theorem dX6_operatorHere_79 : decode cX6_operatorHere 79 = .ok (.bipush 51, 2) := by decide +kernel
theorem dX6_operatorHere_81 : decode cX6_operatorHere 81 = .ok (.goto 32, 3) := by decide +kernel
theorem dX6_operatorHere_84 : decode cX6_operatorHere 84 = .ok (.aload_n 0, 1) := by decide +kernel
theorem dX6_operatorHere_85 : decode cX6_operatorHere 85 = .ok (.bipush 42, 2) := by decide +kernel
theorem dX6_operatorHere_87 : decode cX6_operatorHere 87 = .ok (.invokevirtual 173, 3) := by decide +kernel
theorem dX6_operatorHere_90 : decode cX6_operatorHere 90 = .ok (.ifCond .eq 8, 3) := by decide +kernel
theorem dX6_operatorHere_93 : decode cX6_operatorHere 93 = .ok (.bipush 60, 2) := by decide +kernel
theorem dX6_operatorHere_95 : decode cX6_operatorHere 95 = .ok (.goto 18, 3) := by decide +kernel
theorem dX6_operatorHere_98 : decode cX6_operatorHere 98 = .ok (.aload_n 0, 1) := by decide +kernel
theorem dX6_operatorHere_99 : decode cX6_operatorHere 99 = .ok (.bipush 47, 2) := by decide +kernel
theorem dX6_operatorHere_101 : decode cX6_operatorHere 101 = .ok (.invokevirtual 173, 3) := by decide +kernel
theorem dX6_operatorHere_104 : decode cX6_operatorHere 104 = .ok (.ifCond .eq 8, 3) := by decide +kernel
theorem dX6_operatorHere_107 : decode cX6_operatorHere 107 = .ok (.bipush 61, 2) := by decide +kernel
theorem dX6_operatorHere_109 : decode cX6_operatorHere 109 = .ok (.goto 4, 3) := by decide +kernel
theorem dX6_operatorHere_112 : decode cX6_operatorHere 112 = .ok (.iconst (-1), 1) := by decide +kernel
theorem dX6_operatorHere_113 : decode cX6_operatorHere 113 = .ok (.ireturn, 1) := by decide +kernel
theorem dX7_init_0 : decode cX7_init 0 = .ok (.aload_n 0, 1) := by decide +kernel
theorem dX7_init_1 : decode cX7_init 1 = .ok (.invokespecial 3, 3) := by decide +kernel
theorem dX7_init_4 : decode cX7_init 4 = .ok (.aload_n 0, 1) := by decide +kernel
theorem dX7_init_5 : decode cX7_init 5 = .ok (.bipush 6, 2) := by decide +kernel
theorem dX7_init_7 : decode cX7_init 7 = .ok (.newarray .int, 2) := by decide +kernel
theorem dX7_init_9 : decode cX7_init 9 = .ok (.putfield 9, 3) := by decide +kernel
theorem dX7_init_12 : decode cX7_init 12 = .ok (.aload_n 0, 1) := by decide +kernel
theorem dX7_init_13 : decode cX7_init 13 = .ok (.bipush 12, 2) := by decide +kernel
theorem dX7_init_15 : decode cX7_init 15 = .ok (.newarray .int, 2) := by decide +kernel
theorem dX7_init_17 : decode cX7_init 17 = .ok (.putfield 15, 3) := by decide +kernel
theorem dX7_init_20 : decode cX7_init 20 = .ok (.aload_n 0, 1) := by decide +kernel
theorem dX7_init_21 : decode cX7_init 21 = .ok (.bipush 72, 2) := by decide +kernel
theorem dX7_init_23 : decode cX7_init 23 = .ok (.newarray .int, 2) := by decide +kernel
theorem dX7_init_25 : decode cX7_init 25 = .ok (.putfield 18, 3) := by decide +kernel
theorem dX7_init_28 : decode cX7_init 28 = .ok (.aload_n 0, 1) := by decide +kernel
theorem dX7_init_29 : decode cX7_init 29 = .ok (.iconst 0, 1) := by decide +kernel
theorem dX7_init_30 : decode cX7_init 30 = .ok (.putfield 21, 3) := by decide +kernel
theorem dX7_init_33 : decode cX7_init 33 = .ok (.aload_n 0, 1) := by decide +kernel
theorem dX7_init_34 : decode cX7_init 34 = .ok (.iconst 0, 1) := by decide +kernel
theorem dX7_init_35 : decode cX7_init 35 = .ok (.putfield 25, 3) := by decide +kernel
theorem dX7_init_38 : decode cX7_init 38 = .ok (.return_, 1) := by decide +kernel
theorem dX7_load_0 : decode cX7_load 0 = .ok (.aload_n 0, 1) := by decide +kernel
theorem dX7_load_1 : decode cX7_load 1 = .ok (.iconst 0, 1) := by decide +kernel
theorem dX7_load_2 : decode cX7_load 2 = .ok (.putfield 21, 3) := by decide +kernel
theorem dX7_load_5 : decode cX7_load 5 = .ok (.iconst 0, 1) := by decide +kernel
theorem dX7_load_6 : decode cX7_load 6 = .ok (.istore_n 3, 1) := by decide +kernel
theorem dX7_load_7 : decode cX7_load 7 = .ok (.iload_n 3, 1) := by decide +kernel
theorem dX7_load_8 : decode cX7_load 8 = .ok (.bipush 6, 2) := by decide +kernel
theorem dX7_load_10 : decode cX7_load 10 = .ok (.if_icmp .ge 66, 3) := by decide +kernel
theorem dX7_load_13 : decode cX7_load 13 = .ok (.aload_n 2, 1) := by decide +kernel
theorem dX7_load_14 : decode cX7_load 14 = .ok (.iload_n 3, 1) := by decide +kernel
theorem dX7_load_15 : decode cX7_load 15 = .ok (.aload_n 1, 1) := by decide +kernel
theorem dX7_load_16 : decode cX7_load 16 = .ok (.getfield 28, 3) := by decide +kernel
theorem dX7_load_19 : decode cX7_load 19 = .ok (.invokevirtual 33, 3) := by decide +kernel
theorem dX7_load_22 : decode cX7_load 22 = .ok (.istore 4, 2) := by decide +kernel
theorem dX7_load_24 : decode cX7_load 24 = .ok (.iload 4, 2) := by decide +kernel
theorem dX7_load_26 : decode cX7_load 26 = .ok (.iconst (-1), 1) := by decide +kernel
theorem dX7_load_27 : decode cX7_load 27 = .ok (.if_icmp .eq 43, 3) := by decide +kernel
theorem dX7_load_30 : decode cX7_load 30 = .ok (.aload_n 0, 1) := by decide +kernel
theorem dX7_load_31 : decode cX7_load 31 = .ok (.getfield 21, 3) := by decide +kernel
theorem dX7_load_34 : decode cX7_load 34 = .ok (.ifCond .lt 36, 3) := by decide +kernel
theorem dX7_load_37 : decode cX7_load 37 = .ok (.aload_n 0, 1) := by decide +kernel
theorem dX7_load_38 : decode cX7_load 38 = .ok (.getfield 21, 3) := by decide +kernel
theorem dX7_load_41 : decode cX7_load 41 = .ok (.aload_n 0, 1) := by decide +kernel
theorem dX7_load_42 : decode cX7_load 42 = .ok (.getfield 9, 3) := by decide +kernel
theorem dX7_load_45 : decode cX7_load 45 = .ok (.arraylength, 1) := by decide +kernel
theorem dX7_load_46 : decode cX7_load 46 = .ok (.if_icmp .ge 24, 3) := by decide +kernel
theorem dX7_load_49 : decode cX7_load 49 = .ok (.aload_n 0, 1) := by decide +kernel
theorem dX7_load_50 : decode cX7_load 50 = .ok (.getfield 9, 3) := by decide +kernel
theorem dX7_load_53 : decode cX7_load 53 = .ok (.aload_n 0, 1) := by decide +kernel
theorem dX7_load_54 : decode cX7_load 54 = .ok (.getfield 21, 3) := by decide +kernel
theorem dX7_load_57 : decode cX7_load 57 = .ok (.iload 4, 2) := by decide +kernel
theorem dX7_load_59 : decode cX7_load 59 = .ok (.iastore, 1) := by decide +kernel
theorem dX7_load_60 : decode cX7_load 60 = .ok (.aload_n 0, 1) := by decide +kernel
theorem dX7_load_61 : decode cX7_load 61 = .ok (.dup, 1) := by decide +kernel
theorem dX7_load_62 : decode cX7_load 62 = .ok (.getfield 21, 3) := by decide +kernel
theorem dX7_load_65 : decode cX7_load 65 = .ok (.iconst 1, 1) := by decide +kernel
theorem dX7_load_66 : decode cX7_load 66 = .ok (.iadd, 1) := by decide +kernel
theorem dX7_load_67 : decode cX7_load 67 = .ok (.putfield 21, 3) := by decide +kernel
theorem dX7_load_70 : decode cX7_load 70 = .ok (.iinc 3 1, 3) := by decide +kernel
theorem dX7_load_73 : decode cX7_load 73 = .ok (.goto (-66), 3) := by decide +kernel
theorem dX7_load_76 : decode cX7_load 76 = .ok (.aload_n 0, 1) := by decide +kernel
theorem dX7_load_77 : decode cX7_load 77 = .ok (.aload_n 1, 1) := by decide +kernel
theorem dX7_load_78 : decode cX7_load 78 = .ok (.getfield 39, 3) := by decide +kernel
theorem dX7_load_81 : decode cX7_load 81 = .ok (.putfield 25, 3) := by decide +kernel
theorem dX7_load_84 : decode cX7_load 84 = .ok (.iconst 0, 1) := by decide +kernel
theorem dX7_load_85 : decode cX7_load 85 = .ok (.istore_n 3, 1) := by decide +kernel
theorem dX7_load_86 : decode cX7_load 86 = .ok (.iload_n 3, 1) := by decide +kernel
theorem dX7_load_87 : decode cX7_load 87 = .ok (.aload_n 0, 1) := by decide +kernel
theorem dX7_load_88 : decode cX7_load 88 = .ok (.getfield 15, 3) := by decide +kernel
theorem dX7_load_91 : decode cX7_load 91 = .ok (.arraylength, 1) := by decide +kernel
theorem dX7_load_92 : decode cX7_load 92 = .ok (.if_icmp .ge 20, 3) := by decide +kernel
theorem dX7_load_95 : decode cX7_load 95 = .ok (.aload_n 0, 1) := by decide +kernel
theorem dX7_load_96 : decode cX7_load 96 = .ok (.getfield 15, 3) := by decide +kernel
theorem dX7_load_99 : decode cX7_load 99 = .ok (.iload_n 3, 1) := by decide +kernel
theorem dX7_load_100 : decode cX7_load 100 = .ok (.aload_n 2, 1) := by decide +kernel
theorem dX7_load_101 : decode cX7_load 101 = .ok (.iload_n 3, 1) := by decide +kernel
theorem dX7_load_102 : decode cX7_load 102 = .ok (.invokevirtual 41, 3) := by decide +kernel
theorem dX7_load_105 : decode cX7_load 105 = .ok (.iastore, 1) := by decide +kernel
theorem dX7_load_106 : decode cX7_load 106 = .ok (.iinc 3 1, 3) := by decide +kernel
theorem dX7_load_109 : decode cX7_load 109 = .ok (.goto (-23), 3) := by decide +kernel
theorem dX7_load_112 : decode cX7_load 112 = .ok (.return_, 1) := by decide +kernel
theorem dX7_bells_0 : decode cX7_bells 0 = .ok (.aload_n 0, 1) := by decide +kernel
theorem dX7_bells_1 : decode cX7_bells 1 = .ok (.getfield 21, 3) := by decide +kernel
theorem dX7_bells_4 : decode cX7_bells 4 = .ok (.ireturn, 1) := by decide +kernel
theorem dX7_bellAt_0 : decode cX7_bellAt 0 = .ok (.iload_n 0, 1) := by decide +kernel
theorem dX7_bellAt_1 : decode cX7_bellAt 1 = .ok (.iconst 3, 1) := by decide +kernel
theorem dX7_bellAt_2 : decode cX7_bellAt 2 = .ok (.iload_n 1, 1) := by decide +kernel
theorem dX7_bellAt_3 : decode cX7_bellAt 3 = .ok (.imul, 1) := by decide +kernel
theorem dX7_bellAt_4 : decode cX7_bellAt 4 = .ok (.ishr, 1) := by decide +kernel
theorem dX7_bellAt_5 : decode cX7_bellAt 5 = .ok (.bipush 7, 2) := by decide +kernel
theorem dX7_bellAt_7 : decode cX7_bellAt 7 = .ok (.iand, 1) := by decide +kernel
theorem dX7_bellAt_8 : decode cX7_bellAt 8 = .ok (.ireturn, 1) := by decide +kernel
theorem dX7_behindOne_0 : decode cX7_behindOne 0 = .ok (.aload_n 0, 1) := by decide +kernel
theorem dX7_behindOne_1 : decode cX7_behindOne 1 = .ok (.getfield 25, 3) := by decide +kernel
theorem dX7_behindOne_4 : decode cX7_behindOne 4 = .ok (.ifCond .le 21, 3) := by decide +kernel
theorem dX7_behindOne_7 : decode cX7_behindOne 7 = .ok (.iload_n 2, 1) := by decide +kernel
theorem dX7_behindOne_8 : decode cX7_behindOne 8 = .ok (.ifCond .lt 17, 3) := by decide +kernel
theorem dX7_behindOne_11 : decode cX7_behindOne 11 = .ok (.iload_n 2, 1) := by decide +kernel
theorem dX7_behindOne_12 : decode cX7_behindOne 12 = .ok (.aload_n 0, 1) := by decide +kernel
theorem dX7_behindOne_13 : decode cX7_behindOne 13 = .ok (.getfield 25, 3) := by decide +kernel
theorem dX7_behindOne_16 : decode cX7_behindOne 16 = .ok (.irem, 1) := by decide +kernel
theorem dX7_behindOne_17 : decode cX7_behindOne 17 = .ok (.aload_n 0, 1) := by decide +kernel
theorem dX7_behindOne_18 : decode cX7_behindOne 18 = .ok (.getfield 15, 3) := by decide +kernel
theorem dX7_behindOne_21 : decode cX7_behindOne 21 = .ok (.arraylength, 1) := by decide +kernel
theorem dX7_behindOne_22 : decode cX7_behindOne 22 = .ok (.if_icmp .lt 5, 3) := by decide +kernel
theorem dX7_behindOne_25 : decode cX7_behindOne 25 = .ok (.iload_n 1, 1) := by decide +kernel
theorem dX7_behindOne_26 : decode cX7_behindOne 26 = .ok (.ireturn, 1) := by decide +kernel
theorem dX7_behindOne_27 : decode cX7_behindOne 27 = .ok (.aload_n 0, 1) := by decide +kernel
theorem dX7_behindOne_28 : decode cX7_behindOne 28 = .ok (.getfield 15, 3) := by decide +kernel
theorem dX7_behindOne_31 : decode cX7_behindOne 31 = .ok (.iload_n 2, 1) := by decide +kernel
theorem dX7_behindOne_32 : decode cX7_behindOne 32 = .ok (.aload_n 0, 1) := by decide +kernel
theorem dX7_behindOne_33 : decode cX7_behindOne 33 = .ok (.getfield 25, 3) := by decide +kernel
theorem dX7_behindOne_36 : decode cX7_behindOne 36 = .ok (.irem, 1) := by decide +kernel
theorem dX7_behindOne_37 : decode cX7_behindOne 37 = .ok (.iaload, 1) := by decide +kernel
theorem dX7_behindOne_38 : decode cX7_behindOne 38 = .ok (.istore_n 3, 1) := by decide +kernel
theorem dX7_behindOne_39 : decode cX7_behindOne 39 = .ok (.iload_n 1, 1) := by decide +kernel
theorem dX7_behindOne_40 : decode cX7_behindOne 40 = .ok (.istore 4, 2) := by decide +kernel
theorem dX7_behindOne_42 : decode cX7_behindOne 42 = .ok (.iconst 0, 1) := by decide +kernel
theorem dX7_behindOne_43 : decode cX7_behindOne 43 = .ok (.istore 5, 2) := by decide +kernel
theorem dX7_behindOne_45 : decode cX7_behindOne 45 = .ok (.iload 5, 2) := by decide +kernel
theorem dX7_behindOne_47 : decode cX7_behindOne 47 = .ok (.iconst 1, 1) := by decide +kernel
theorem dX7_behindOne_48 : decode cX7_behindOne 48 = .ok (.iadd, 1) := by decide +kernel
theorem dX7_behindOne_49 : decode cX7_behindOne 49 = .ok (.aload_n 0, 1) := by decide +kernel
theorem dX7_behindOne_50 : decode cX7_behindOne 50 = .ok (.getfield 21, 3) := by decide +kernel
theorem dX7_behindOne_53 : decode cX7_behindOne 53 = .ok (.if_icmp .ge 55, 3) := by decide +kernel
theorem dX7_behindOne_56 : decode cX7_behindOne 56 = .ok (.iload_n 3, 1) := by decide +kernel
theorem dX7_behindOne_57 : decode cX7_behindOne 57 = .ok (.iload 5, 2) := by decide +kernel
theorem dX7_behindOne_59 : decode cX7_behindOne 59 = .ok (.ishr, 1) := by decide +kernel
theorem dX7_behindOne_60 : decode cX7_behindOne 60 = .ok (.iconst 1, 1) := by decide +kernel
theorem dX7_behindOne_61 : decode cX7_behindOne 61 = .ok (.iand, 1) := by decide +kernel
theorem dX7_behindOne_62 : decode cX7_behindOne 62 = .ok (.iconst 1, 1) := by decide +kernel
theorem dX7_behindOne_63 : decode cX7_behindOne 63 = .ok (.if_icmp .ne 39, 3) := by decide +kernel
theorem dX7_behindOne_66 : decode cX7_behindOne 66 = .ok (.iload 4, 2) := by decide +kernel
theorem dX7_behindOne_68 : decode cX7_behindOne 68 = .ok (.iload 5, 2) := by decide +kernel
theorem dX7_behindOne_70 : decode cX7_behindOne 70 = .ok (.invokestatic 45, 3) := by decide +kernel
theorem dX7_behindOne_73 : decode cX7_behindOne 73 = .ok (.iload 4, 2) := by decide +kernel
theorem dX7_behindOne_75 : decode cX7_behindOne 75 = .ok (.iload 5, 2) := by decide +kernel
theorem dX7_behindOne_77 : decode cX7_behindOne 77 = .ok (.iconst 1, 1) := by decide +kernel
theorem dX7_behindOne_78 : decode cX7_behindOne 78 = .ok (.iadd, 1) := by decide +kernel
theorem dX7_behindOne_79 : decode cX7_behindOne 79 = .ok (.invokestatic 45, 3) := by decide +kernel
theorem dX7_behindOne_82 : decode cX7_behindOne 82 = .ok (.ixor, 1) := by decide +kernel
theorem dX7_behindOne_83 : decode cX7_behindOne 83 = .ok (.istore 6, 2) := by decide +kernel
theorem dX7_behindOne_85 : decode cX7_behindOne 85 = .ok (.iload 4, 2) := by decide +kernel
theorem dX7_behindOne_87 : decode cX7_behindOne 87 = .ok (.iload 6, 2) := by decide +kernel
theorem dX7_behindOne_89 : decode cX7_behindOne 89 = .ok (.iload 6, 2) := by decide +kernel
theorem dX7_behindOne_91 : decode cX7_behindOne 91 = .ok (.iconst 3, 1) := by decide +kernel
theorem dX7_behindOne_92 : decode cX7_behindOne 92 = .ok (.ishl, 1) := by decide +kernel
theorem dX7_behindOne_93 : decode cX7_behindOne 93 = .ok (.ior, 1) := by decide +kernel
theorem dX7_behindOne_94 : decode cX7_behindOne 94 = .ok (.iconst 3, 1) := by decide +kernel
theorem dX7_behindOne_95 : decode cX7_behindOne 95 = .ok (.iload 5, 2) := by decide +kernel
theorem dX7_behindOne_97 : decode cX7_behindOne 97 = .ok (.imul, 1) := by decide +kernel
theorem dX7_behindOne_98 : decode cX7_behindOne 98 = .ok (.ishl, 1) := by decide +kernel
theorem dX7_behindOne_99 : decode cX7_behindOne 99 = .ok (.ixor, 1) := by decide +kernel
theorem dX7_behindOne_100 : decode cX7_behindOne 100 = .ok (.istore 4, 2) := by decide +kernel
theorem dX7_behindOne_102 : decode cX7_behindOne 102 = .ok (.iinc 5 1, 3) := by decide +kernel
theorem dX7_behindOne_105 : decode cX7_behindOne 105 = .ok (.goto (-60), 3) := by decide +kernel
theorem dX7_behindOne_108 : decode cX7_behindOne 108 = .ok (.iload 4, 2) := by decide +kernel
theorem dX7_behindOne_110 : decode cX7_behindOne 110 = .ok (.ireturn, 1) := by decide +kernel
theorem dX7_rowBehind_0 : decode cX7_rowBehind 0 = .ok (.ldc 48, 2) := by decide +kernel
theorem dX7_rowBehind_2 : decode cX7_rowBehind 2 = .ok (.istore_n 2, 1) := by decide +kernel
theorem dX7_rowBehind_3 : decode cX7_rowBehind 3 = .ok (.iconst 0, 1) := by decide +kernel
theorem dX7_rowBehind_4 : decode cX7_rowBehind 4 = .ok (.istore_n 3, 1) := by decide +kernel
theorem dX7_rowBehind_5 : decode cX7_rowBehind 5 = .ok (.iload_n 3, 1) := by decide +kernel
theorem dX7_rowBehind_6 : decode cX7_rowBehind 6 = .ok (.iload_n 1, 1) := by decide +kernel
theorem dX7_rowBehind_7 : decode cX7_rowBehind 7 = .ok (.if_icmp .ge 16, 3) := by decide +kernel
theorem dX7_rowBehind_10 : decode cX7_rowBehind 10 = .ok (.aload_n 0, 1) := by decide +kernel
theorem dX7_rowBehind_11 : decode cX7_rowBehind 11 = .ok (.iload_n 2, 1) := by decide +kernel
theorem dX7_rowBehind_12 : decode cX7_rowBehind 12 = .ok (.iload_n 3, 1) := by decide +kernel
theorem dX7_rowBehind_13 : decode cX7_rowBehind 13 = .ok (.invokevirtual 49, 3) := by decide +kernel
theorem dX7_rowBehind_16 : decode cX7_rowBehind 16 = .ok (.istore_n 2, 1) := by decide +kernel
theorem dX7_rowBehind_17 : decode cX7_rowBehind 17 = .ok (.iinc 3 1, 3) := by decide +kernel
theorem dX7_rowBehind_20 : decode cX7_rowBehind 20 = .ok (.goto (-15), 3) := by decide +kernel
theorem dX7_rowBehind_23 : decode cX7_rowBehind 23 = .ok (.iload_n 2, 1) := by decide +kernel
theorem dX7_rowBehind_24 : decode cX7_rowBehind 24 = .ok (.ireturn, 1) := by decide +kernel
theorem dX7_numberBehind_0 : decode cX7_numberBehind 0 = .ok (.aload_n 0, 1) := by decide +kernel
theorem dX7_numberBehind_1 : decode cX7_numberBehind 1 = .ok (.iload_n 1, 1) := by decide +kernel
theorem dX7_numberBehind_2 : decode cX7_numberBehind 2 = .ok (.invokevirtual 52, 3) := by decide +kernel
theorem dX7_numberBehind_5 : decode cX7_numberBehind 5 = .ok (.istore_n 2, 1) := by decide +kernel
theorem dX7_numberBehind_6 : decode cX7_numberBehind 6 = .ok (.iconst 0, 1) := by decide +kernel
theorem dX7_numberBehind_7 : decode cX7_numberBehind 7 = .ok (.istore_n 3, 1) := by decide +kernel
theorem dX7_numberBehind_8 : decode cX7_numberBehind 8 = .ok (.iconst 0, 1) := by decide +kernel
theorem dX7_numberBehind_9 : decode cX7_numberBehind 9 = .ok (.istore 4, 2) := by decide +kernel
theorem dX7_numberBehind_11 : decode cX7_numberBehind 11 = .ok (.iload 4, 2) := by decide +kernel
theorem dX7_numberBehind_13 : decode cX7_numberBehind 13 = .ok (.aload_n 0, 1) := by decide +kernel
theorem dX7_numberBehind_14 : decode cX7_numberBehind 14 = .ok (.getfield 21, 3) := by decide +kernel
theorem dX7_numberBehind_17 : decode cX7_numberBehind 17 = .ok (.if_icmp .ge 21, 3) := by decide +kernel
theorem dX7_numberBehind_20 : decode cX7_numberBehind 20 = .ok (.bipush 10, 2) := by decide +kernel
theorem dX7_numberBehind_22 : decode cX7_numberBehind 22 = .ok (.iload_n 3, 1) := by decide +kernel
theorem dX7_numberBehind_23 : decode cX7_numberBehind 23 = .ok (.imul, 1) := by decide +kernel
theorem dX7_numberBehind_24 : decode cX7_numberBehind 24 = .ok (.iload_n 2, 1) := by decide +kernel
theorem dX7_numberBehind_25 : decode cX7_numberBehind 25 = .ok (.iload 4, 2) := by decide +kernel
theorem dX7_numberBehind_27 : decode cX7_numberBehind 27 = .ok (.invokestatic 45, 3) := by decide +kernel
theorem dX7_numberBehind_30 : decode cX7_numberBehind 30 = .ok (.iadd, 1) := by decide +kernel
theorem dX7_numberBehind_31 : decode cX7_numberBehind 31 = .ok (.istore_n 3, 1) := by decide +kernel
theorem dX7_numberBehind_32 : decode cX7_numberBehind 32 = .ok (.iinc 4 1, 3) := by decide +kernel
theorem dX7_numberBehind_35 : decode cX7_numberBehind 35 = .ok (.goto (-24), 3) := by decide +kernel
theorem dX7_numberBehind_38 : decode cX7_numberBehind 38 = .ok (.iload_n 3, 1) := by decide +kernel
theorem dX7_numberBehind_39 : decode cX7_numberBehind 39 = .ok (.ireturn, 1) := by decide +kernel
theorem dX7_rootAt_0 : decode cX7_rootAt 0 = .ok (.aload_n 0, 1) := by decide +kernel
theorem dX7_rootAt_1 : decode cX7_rootAt 1 = .ok (.iload_n 1, 1) := by decide +kernel
theorem dX7_rootAt_2 : decode cX7_rootAt 2 = .ok (.invokevirtual 52, 3) := by decide +kernel
theorem dX7_rootAt_5 : decode cX7_rootAt 5 = .ok (.iload_n 2, 1) := by decide +kernel
theorem dX7_rootAt_6 : decode cX7_rootAt 6 = .ok (.invokestatic 45, 3) := by decide +kernel
theorem dX7_rootAt_9 : decode cX7_rootAt 9 = .ok (.istore_n 3, 1) := by decide +kernel
theorem dX7_rootAt_10 : decode cX7_rootAt 10 = .ok (.iload_n 3, 1) := by decide +kernel
theorem dX7_rootAt_11 : decode cX7_rootAt 11 = .ok (.aload_n 0, 1) := by decide +kernel
theorem dX7_rootAt_12 : decode cX7_rootAt 12 = .ok (.getfield 9, 3) := by decide +kernel
theorem dX7_rootAt_15 : decode cX7_rootAt 15 = .ok (.arraylength, 1) := by decide +kernel
theorem dX7_rootAt_16 : decode cX7_rootAt 16 = .ok (.if_icmp .ge 12, 3) := by decide +kernel
theorem dX7_rootAt_19 : decode cX7_rootAt 19 = .ok (.aload_n 0, 1) := by decide +kernel
theorem dX7_rootAt_20 : decode cX7_rootAt 20 = .ok (.getfield 9, 3) := by decide +kernel
theorem dX7_rootAt_23 : decode cX7_rootAt 23 = .ok (.iload_n 3, 1) := by decide +kernel
theorem dX7_rootAt_24 : decode cX7_rootAt 24 = .ok (.iaload, 1) := by decide +kernel
theorem dX7_rootAt_25 : decode cX7_rootAt 25 = .ok (.goto 4, 3) := by decide +kernel
theorem dX7_rootAt_28 : decode cX7_rootAt 28 = .ok (.iconst (-1), 1) := by decide +kernel
theorem dX7_rootAt_29 : decode cX7_rootAt 29 = .ok (.ireturn, 1) := by decide +kernel
theorem dX7_lengthRung_0 : decode cX7_lengthRung 0 = .ok (.ldc 48, 2) := by decide +kernel
theorem dX7_lengthRung_2 : decode cX7_lengthRung 2 = .ok (.istore_n 1, 1) := by decide +kernel
theorem dX7_lengthRung_3 : decode cX7_lengthRung 3 = .ok (.iconst 0, 1) := by decide +kernel
theorem dX7_lengthRung_4 : decode cX7_lengthRung 4 = .ok (.istore_n 2, 1) := by decide +kernel
theorem dX7_lengthRung_5 : decode cX7_lengthRung 5 = .ok (.iload_n 2, 1) := by decide +kernel
theorem dX7_lengthRung_6 : decode cX7_lengthRung 6 = .ok (.bipush 72, 2) := by decide +kernel
theorem dX7_lengthRung_8 : decode cX7_lengthRung 8 = .ok (.if_icmp .ge 26, 3) := by decide +kernel
theorem dX7_lengthRung_11 : decode cX7_lengthRung 11 = .ok (.aload_n 0, 1) := by decide +kernel
theorem dX7_lengthRung_12 : decode cX7_lengthRung 12 = .ok (.iload_n 1, 1) := by decide +kernel
theorem dX7_lengthRung_13 : decode cX7_lengthRung 13 = .ok (.iload_n 2, 1) := by decide +kernel
theorem dX7_lengthRung_14 : decode cX7_lengthRung 14 = .ok (.invokevirtual 49, 3) := by decide +kernel
theorem dX7_lengthRung_17 : decode cX7_lengthRung 17 = .ok (.istore_n 1, 1) := by decide +kernel
theorem dX7_lengthRung_18 : decode cX7_lengthRung 18 = .ok (.iload_n 1, 1) := by decide +kernel
theorem dX7_lengthRung_19 : decode cX7_lengthRung 19 = .ok (.ldc 48, 2) := by decide +kernel
theorem dX7_lengthRung_21 : decode cX7_lengthRung 21 = .ok (.if_icmp .ne 7, 3) := by decide +kernel
theorem dX7_lengthRung_24 : decode cX7_lengthRung 24 = .ok (.iload_n 2, 1) := by decide +kernel
theorem dX7_lengthRung_25 : decode cX7_lengthRung 25 = .ok (.iconst 1, 1) := by decide +kernel
theorem dX7_lengthRung_26 : decode cX7_lengthRung 26 = .ok (.iadd, 1) := by decide +kernel
theorem dX7_lengthRung_27 : decode cX7_lengthRung 27 = .ok (.ireturn, 1) := by decide +kernel
theorem dX7_lengthRung_28 : decode cX7_lengthRung 28 = .ok (.iinc 2 1, 3) := by decide +kernel
theorem dX7_lengthRung_31 : decode cX7_lengthRung 31 = .ok (.goto (-26), 3) := by decide +kernel
theorem dX7_lengthRung_34 : decode cX7_lengthRung 34 = .ok (.bipush 72, 2) := by decide +kernel
theorem dX7_lengthRung_36 : decode cX7_lengthRung 36 = .ok (.ireturn, 1) := by decide +kernel
theorem dX7_trueLength_0 : decode cX7_trueLength 0 = .ok (.ldc 48, 2) := by decide +kernel
theorem dX7_trueLength_2 : decode cX7_trueLength 2 = .ok (.istore_n 1, 1) := by decide +kernel
theorem dX7_trueLength_3 : decode cX7_trueLength 3 = .ok (.iconst 0, 1) := by decide +kernel
theorem dX7_trueLength_4 : decode cX7_trueLength 4 = .ok (.istore_n 2, 1) := by decide +kernel
theorem dX7_trueLength_5 : decode cX7_trueLength 5 = .ok (.iload_n 2, 1) := by decide +kernel
theorem dX7_trueLength_6 : decode cX7_trueLength 6 = .ok (.bipush 72, 2) := by decide +kernel
theorem dX7_trueLength_8 : decode cX7_trueLength 8 = .ok (.if_icmp .ge 53, 3) := by decide +kernel
theorem dX7_trueLength_11 : decode cX7_trueLength 11 = .ok (.iload_n 2, 1) := by decide +kernel
theorem dX7_trueLength_12 : decode cX7_trueLength 12 = .ok (.aload_n 0, 1) := by decide +kernel
theorem dX7_trueLength_13 : decode cX7_trueLength 13 = .ok (.getfield 18, 3) := by decide +kernel
theorem dX7_trueLength_16 : decode cX7_trueLength 16 = .ok (.arraylength, 1) := by decide +kernel
theorem dX7_trueLength_17 : decode cX7_trueLength 17 = .ok (.if_icmp .ge 44, 3) := by decide +kernel
theorem dX7_trueLength_20 : decode cX7_trueLength 20 = .ok (.aload_n 0, 1) := by decide +kernel
theorem dX7_trueLength_21 : decode cX7_trueLength 21 = .ok (.getfield 18, 3) := by decide +kernel
theorem dX7_trueLength_24 : decode cX7_trueLength 24 = .ok (.iload_n 2, 1) := by decide +kernel
theorem dX7_trueLength_25 : decode cX7_trueLength 25 = .ok (.iload_n 1, 1) := by decide +kernel
theorem dX7_trueLength_26 : decode cX7_trueLength 26 = .ok (.iastore, 1) := by decide +kernel
theorem dX7_trueLength_27 : decode cX7_trueLength 27 = .ok (.aload_n 0, 1) := by decide +kernel
theorem dX7_trueLength_28 : decode cX7_trueLength 28 = .ok (.iload_n 1, 1) := by decide +kernel
theorem dX7_trueLength_29 : decode cX7_trueLength 29 = .ok (.iload_n 2, 1) := by decide +kernel
theorem dX7_trueLength_30 : decode cX7_trueLength 30 = .ok (.invokevirtual 49, 3) := by decide +kernel
theorem dX7_trueLength_33 : decode cX7_trueLength 33 = .ok (.istore_n 1, 1) := by decide +kernel
theorem dX7_trueLength_34 : decode cX7_trueLength 34 = .ok (.iload_n 1, 1) := by decide +kernel
theorem dX7_trueLength_35 : decode cX7_trueLength 35 = .ok (.ldc 48, 2) := by decide +kernel
theorem dX7_trueLength_37 : decode cX7_trueLength 37 = .ok (.if_icmp .ne 7, 3) := by decide +kernel
theorem dX7_trueLength_40 : decode cX7_trueLength 40 = .ok (.iload_n 2, 1) := by decide +kernel
theorem dX7_trueLength_41 : decode cX7_trueLength 41 = .ok (.iconst 1, 1) := by decide +kernel
theorem dX7_trueLength_42 : decode cX7_trueLength 42 = .ok (.iadd, 1) := by decide +kernel
theorem dX7_trueLength_43 : decode cX7_trueLength 43 = .ok (.ireturn, 1) := by decide +kernel
theorem dX7_trueLength_44 : decode cX7_trueLength 44 = .ok (.aload_n 0, 1) := by decide +kernel
theorem dX7_trueLength_45 : decode cX7_trueLength 45 = .ok (.iload_n 1, 1) := by decide +kernel
theorem dX7_trueLength_46 : decode cX7_trueLength 46 = .ok (.iload_n 2, 1) := by decide +kernel
theorem dX7_trueLength_47 : decode cX7_trueLength 47 = .ok (.invokevirtual 55, 3) := by decide +kernel
theorem dX7_trueLength_50 : decode cX7_trueLength 50 = .ok (.ifCond .eq 5, 3) := by decide +kernel
theorem dX7_trueLength_53 : decode cX7_trueLength 53 = .ok (.iconst 0, 1) := by decide +kernel
theorem dX7_trueLength_54 : decode cX7_trueLength 54 = .ok (.ireturn, 1) := by decide +kernel
theorem dX7_trueLength_55 : decode cX7_trueLength 55 = .ok (.iinc 2 1, 3) := by decide +kernel
theorem dX7_trueLength_58 : decode cX7_trueLength 58 = .ok (.goto (-53), 3) := by decide +kernel
theorem dX7_trueLength_61 : decode cX7_trueLength 61 = .ok (.iconst 0, 1) := by decide +kernel
theorem dX7_trueLength_62 : decode cX7_trueLength 62 = .ok (.ireturn, 1) := by decide +kernel
theorem dX7_isRung_0 : decode cX7_isRung 0 = .ok (.iload_n 2, 1) := by decide +kernel
theorem dX7_isRung_1 : decode cX7_isRung 1 = .ok (.istore_n 3, 1) := by decide +kernel
theorem dX7_isRung_2 : decode cX7_isRung 2 = .ok (.iload_n 3, 1) := by decide +kernel
theorem dX7_isRung_3 : decode cX7_isRung 3 = .ok (.ifCond .lt 30, 3) := by decide +kernel
theorem dX7_isRung_6 : decode cX7_isRung 6 = .ok (.iload_n 3, 1) := by decide +kernel
theorem dX7_isRung_7 : decode cX7_isRung 7 = .ok (.aload_n 0, 1) := by decide +kernel
theorem dX7_isRung_8 : decode cX7_isRung 8 = .ok (.getfield 18, 3) := by decide +kernel
theorem dX7_isRung_11 : decode cX7_isRung 11 = .ok (.arraylength, 1) := by decide +kernel
theorem dX7_isRung_12 : decode cX7_isRung 12 = .ok (.if_icmp .ge 15, 3) := by decide +kernel
theorem dX7_isRung_15 : decode cX7_isRung 15 = .ok (.aload_n 0, 1) := by decide +kernel
theorem dX7_isRung_16 : decode cX7_isRung 16 = .ok (.getfield 18, 3) := by decide +kernel
theorem dX7_isRung_19 : decode cX7_isRung 19 = .ok (.iload_n 3, 1) := by decide +kernel
theorem dX7_isRung_20 : decode cX7_isRung 20 = .ok (.iaload, 1) := by decide +kernel
theorem dX7_isRung_21 : decode cX7_isRung 21 = .ok (.iload_n 1, 1) := by decide +kernel
theorem dX7_isRung_22 : decode cX7_isRung 22 = .ok (.if_icmp .ne 5, 3) := by decide +kernel
theorem dX7_isRung_25 : decode cX7_isRung 25 = .ok (.iconst 1, 1) := by decide +kernel
theorem dX7_isRung_26 : decode cX7_isRung 26 = .ok (.ireturn, 1) := by decide +kernel
theorem dX7_isRung_27 : decode cX7_isRung 27 = .ok (.iinc 3 (-1), 3) := by decide +kernel
theorem dX7_isRung_30 : decode cX7_isRung 30 = .ok (.goto (-28), 3) := by decide +kernel
theorem dX7_isRung_33 : decode cX7_isRung 33 = .ok (.iconst 0, 1) := by decide +kernel
theorem dX7_isRung_34 : decode cX7_isRung 34 = .ok (.ireturn, 1) := by decide +kernel
theorem dX7_longerBy_0 : decode cX7_longerBy 0 = .ok (.aload_n 0, 1) := by decide +kernel
theorem dX7_longerBy_1 : decode cX7_longerBy 1 = .ok (.invokevirtual 59, 3) := by decide +kernel
theorem dX7_longerBy_4 : decode cX7_longerBy 4 = .ok (.istore_n 1, 1) := by decide +kernel
theorem dX7_longerBy_5 : decode cX7_longerBy 5 = .ok (.iconst (-1), 1) := by decide +kernel
theorem dX7_longerBy_6 : decode cX7_longerBy 6 = .ok (.istore_n 2, 1) := by decide +kernel
theorem dX7_longerBy_7 : decode cX7_longerBy 7 = .ok (.iconst 0, 1) := by decide +kernel
theorem dX7_longerBy_8 : decode cX7_longerBy 8 = .ok (.istore_n 3, 1) := by decide +kernel
theorem dX7_longerBy_9 : decode cX7_longerBy 9 = .ok (.iload_n 3, 1) := by decide +kernel
theorem dX7_longerBy_10 : decode cX7_longerBy 10 = .ok (.aload_n 0, 1) := by decide +kernel
theorem dX7_longerBy_11 : decode cX7_longerBy 11 = .ok (.getfield 25, 3) := by decide +kernel
theorem dX7_longerBy_14 : decode cX7_longerBy 14 = .ok (.if_icmp .ge 96, 3) := by decide +kernel
theorem dX7_longerBy_17 : decode cX7_longerBy 17 = .ok (.iload_n 3, 1) := by decide +kernel
theorem dX7_longerBy_18 : decode cX7_longerBy 18 = .ok (.aload_n 0, 1) := by decide +kernel
theorem dX7_longerBy_19 : decode cX7_longerBy 19 = .ok (.getfield 15, 3) := by decide +kernel
theorem dX7_longerBy_22 : decode cX7_longerBy 22 = .ok (.arraylength, 1) := by decide +kernel
theorem dX7_longerBy_23 : decode cX7_longerBy 23 = .ok (.if_icmp .ge 87, 3) := by decide +kernel
theorem dX7_longerBy_26 : decode cX7_longerBy 26 = .ok (.aload_n 0, 1) := by decide +kernel
theorem dX7_longerBy_27 : decode cX7_longerBy 27 = .ok (.getfield 15, 3) := by decide +kernel
theorem dX7_longerBy_30 : decode cX7_longerBy 30 = .ok (.iload_n 3, 1) := by decide +kernel
theorem dX7_longerBy_31 : decode cX7_longerBy 31 = .ok (.iaload, 1) := by decide +kernel
theorem dX7_longerBy_32 : decode cX7_longerBy 32 = .ok (.istore 4, 2) := by decide +kernel
theorem dX7_longerBy_34 : decode cX7_longerBy 34 = .ok (.iconst 0, 1) := by decide +kernel
theorem dX7_longerBy_35 : decode cX7_longerBy 35 = .ok (.istore 5, 2) := by decide +kernel
theorem dX7_longerBy_37 : decode cX7_longerBy 37 = .ok (.iload 5, 2) := by decide +kernel
theorem dX7_longerBy_39 : decode cX7_longerBy 39 = .ok (.bipush 32, 2) := by decide +kernel
theorem dX7_longerBy_41 : decode cX7_longerBy 41 = .ok (.if_icmp .ge 55, 3) := by decide +kernel
theorem dX7_longerBy_44 : decode cX7_longerBy 44 = .ok (.iload 5, 2) := by decide +kernel
theorem dX7_longerBy_46 : decode cX7_longerBy 46 = .ok (.iload 4, 2) := by decide +kernel
theorem dX7_longerBy_48 : decode cX7_longerBy 48 = .ok (.if_icmp .eq 42, 3) := by decide +kernel
theorem dX7_longerBy_51 : decode cX7_longerBy 51 = .ok (.iload 5, 2) := by decide +kernel
theorem dX7_longerBy_53 : decode cX7_longerBy 53 = .ok (.invokestatic 63, 3) := by decide +kernel
theorem dX7_longerBy_56 : decode cX7_longerBy 56 = .ok (.ifCond .eq 34, 3) := by decide +kernel
theorem dX7_longerBy_59 : decode cX7_longerBy 59 = .ok (.aload_n 0, 1) := by decide +kernel
theorem dX7_longerBy_60 : decode cX7_longerBy 60 = .ok (.getfield 15, 3) := by decide +kernel
theorem dX7_longerBy_63 : decode cX7_longerBy 63 = .ok (.iload_n 3, 1) := by decide +kernel
theorem dX7_longerBy_64 : decode cX7_longerBy 64 = .ok (.iload 5, 2) := by decide +kernel
theorem dX7_longerBy_66 : decode cX7_longerBy 66 = .ok (.iastore, 1) := by decide +kernel
theorem dX7_longerBy_67 : decode cX7_longerBy 67 = .ok (.aload_n 0, 1) := by decide +kernel
theorem dX7_longerBy_68 : decode cX7_longerBy 68 = .ok (.invokevirtual 59, 3) := by decide +kernel
theorem dX7_longerBy_71 : decode cX7_longerBy 71 = .ok (.istore 6, 2) := by decide +kernel
theorem dX7_longerBy_73 : decode cX7_longerBy 73 = .ok (.iload 6, 2) := by decide +kernel
theorem dX7_longerBy_75 : decode cX7_longerBy 75 = .ok (.iload_n 1, 1) := by decide +kernel
theorem dX7_longerBy_76 : decode cX7_longerBy 76 = .ok (.if_icmp .le 14, 3) := by decide +kernel
theorem dX7_longerBy_79 : decode cX7_longerBy 79 = .ok (.iload 6, 2) := by decide +kernel
theorem dX7_longerBy_81 : decode cX7_longerBy 81 = .ok (.istore_n 1, 1) := by decide +kernel
theorem dX7_longerBy_82 : decode cX7_longerBy 82 = .ok (.bipush 100, 2) := by decide +kernel
theorem dX7_longerBy_84 : decode cX7_longerBy 84 = .ok (.iload_n 3, 1) := by decide +kernel
theorem dX7_longerBy_85 : decode cX7_longerBy 85 = .ok (.imul, 1) := by decide +kernel
theorem dX7_longerBy_86 : decode cX7_longerBy 86 = .ok (.iload 5, 2) := by decide +kernel
theorem dX7_longerBy_88 : decode cX7_longerBy 88 = .ok (.iadd, 1) := by decide +kernel
theorem dX7_longerBy_89 : decode cX7_longerBy 89 = .ok (.istore_n 2, 1) := by decide +kernel
theorem dX7_longerBy_90 : decode cX7_longerBy 90 = .ok (.iinc 5 1, 3) := by decide +kernel
theorem dX7_longerBy_93 : decode cX7_longerBy 93 = .ok (.goto (-56), 3) := by decide +kernel
theorem dX7_longerBy_96 : decode cX7_longerBy 96 = .ok (.aload_n 0, 1) := by decide +kernel
theorem dX7_longerBy_97 : decode cX7_longerBy 97 = .ok (.getfield 15, 3) := by decide +kernel
theorem dX7_longerBy_100 : decode cX7_longerBy 100 = .ok (.iload_n 3, 1) := by decide +kernel
theorem dX7_longerBy_101 : decode cX7_longerBy 101 = .ok (.iload 4, 2) := by decide +kernel
theorem dX7_longerBy_103 : decode cX7_longerBy 103 = .ok (.iastore, 1) := by decide +kernel
theorem dX7_longerBy_104 : decode cX7_longerBy 104 = .ok (.iinc 3 1, 3) := by decide +kernel
theorem dX7_longerBy_107 : decode cX7_longerBy 107 = .ok (.goto (-98), 3) := by decide +kernel
theorem dX7_longerBy_110 : decode cX7_longerBy 110 = .ok (.iload_n 2, 1) := by decide +kernel
theorem dX7_longerBy_111 : decode cX7_longerBy 111 = .ok (.ireturn, 1) := by decide +kernel
theorem dX7_bellOf_0 : decode cX7_bellOf 0 = .ok (.iconst 0, 1) := by decide +kernel
theorem dX7_bellOf_1 : decode cX7_bellOf 1 = .ok (.istore_n 2, 1) := by decide +kernel
theorem dX7_bellOf_2 : decode cX7_bellOf 2 = .ok (.iload_n 2, 1) := by decide +kernel
theorem dX7_bellOf_3 : decode cX7_bellOf 3 = .ok (.aload_n 0, 1) := by decide +kernel
theorem dX7_bellOf_4 : decode cX7_bellOf 4 = .ok (.getfield 21, 3) := by decide +kernel
theorem dX7_bellOf_7 : decode cX7_bellOf 7 = .ok (.if_icmp .ge 30, 3) := by decide +kernel
theorem dX7_bellOf_10 : decode cX7_bellOf 10 = .ok (.iload_n 2, 1) := by decide +kernel
theorem dX7_bellOf_11 : decode cX7_bellOf 11 = .ok (.aload_n 0, 1) := by decide +kernel
theorem dX7_bellOf_12 : decode cX7_bellOf 12 = .ok (.getfield 9, 3) := by decide +kernel
theorem dX7_bellOf_15 : decode cX7_bellOf 15 = .ok (.arraylength, 1) := by decide +kernel
theorem dX7_bellOf_16 : decode cX7_bellOf 16 = .ok (.if_icmp .ge 21, 3) := by decide +kernel
theorem dX7_bellOf_19 : decode cX7_bellOf 19 = .ok (.aload_n 0, 1) := by decide +kernel
theorem dX7_bellOf_20 : decode cX7_bellOf 20 = .ok (.getfield 9, 3) := by decide +kernel
theorem dX7_bellOf_23 : decode cX7_bellOf 23 = .ok (.iload_n 2, 1) := by decide +kernel
theorem dX7_bellOf_24 : decode cX7_bellOf 24 = .ok (.iaload, 1) := by decide +kernel
theorem dX7_bellOf_25 : decode cX7_bellOf 25 = .ok (.iload_n 1, 1) := by decide +kernel
theorem dX7_bellOf_26 : decode cX7_bellOf 26 = .ok (.if_icmp .ne 5, 3) := by decide +kernel
theorem dX7_bellOf_29 : decode cX7_bellOf 29 = .ok (.iload_n 2, 1) := by decide +kernel
theorem dX7_bellOf_30 : decode cX7_bellOf 30 = .ok (.ireturn, 1) := by decide +kernel
theorem dX7_bellOf_31 : decode cX7_bellOf 31 = .ok (.iinc 2 1, 3) := by decide +kernel
theorem dX7_bellOf_34 : decode cX7_bellOf 34 = .ok (.goto (-32), 3) := by decide +kernel
theorem dX7_bellOf_37 : decode cX7_bellOf 37 = .ok (.iconst (-1), 1) := by decide +kernel
theorem dX7_bellOf_38 : decode cX7_bellOf 38 = .ok (.ireturn, 1) := by decide +kernel
theorem dX7_placeIn_0 : decode cX7_placeIn 0 = .ok (.iconst 0, 1) := by decide +kernel
theorem dX7_placeIn_1 : decode cX7_placeIn 1 = .ok (.istore_n 3, 1) := by decide +kernel
theorem dX7_placeIn_2 : decode cX7_placeIn 2 = .ok (.iload_n 3, 1) := by decide +kernel
theorem dX7_placeIn_3 : decode cX7_placeIn 3 = .ok (.aload_n 0, 1) := by decide +kernel
theorem dX7_placeIn_4 : decode cX7_placeIn 4 = .ok (.getfield 21, 3) := by decide +kernel
theorem dX7_placeIn_7 : decode cX7_placeIn 7 = .ok (.if_icmp .ge 20, 3) := by decide +kernel
theorem dX7_placeIn_10 : decode cX7_placeIn 10 = .ok (.iload_n 1, 1) := by decide +kernel
theorem dX7_placeIn_11 : decode cX7_placeIn 11 = .ok (.iload_n 3, 1) := by decide +kernel
theorem dX7_placeIn_12 : decode cX7_placeIn 12 = .ok (.invokestatic 45, 3) := by decide +kernel
theorem dX7_placeIn_15 : decode cX7_placeIn 15 = .ok (.iload_n 2, 1) := by decide +kernel
theorem dX7_placeIn_16 : decode cX7_placeIn 16 = .ok (.if_icmp .ne 5, 3) := by decide +kernel
theorem dX7_placeIn_19 : decode cX7_placeIn 19 = .ok (.iload_n 3, 1) := by decide +kernel
theorem dX7_placeIn_20 : decode cX7_placeIn 20 = .ok (.ireturn, 1) := by decide +kernel
theorem dX7_placeIn_21 : decode cX7_placeIn 21 = .ok (.iinc 3 1, 3) := by decide +kernel
theorem dX7_placeIn_24 : decode cX7_placeIn 24 = .ok (.goto (-22), 3) := by decide +kernel
theorem dX7_placeIn_27 : decode cX7_placeIn 27 = .ok (.iconst (-1), 1) := by decide +kernel
theorem dX7_placeIn_28 : decode cX7_placeIn 28 = .ok (.ireturn, 1) := by decide +kernel
theorem dX7_leadsOf_0 : decode cX7_leadsOf 0 = .ok (.aload_n 0, 1) := by decide +kernel
theorem dX7_leadsOf_1 : decode cX7_leadsOf 1 = .ok (.iload_n 1, 1) := by decide +kernel
theorem dX7_leadsOf_2 : decode cX7_leadsOf 2 = .ok (.invokevirtual 67, 3) := by decide +kernel
theorem dX7_leadsOf_5 : decode cX7_leadsOf 5 = .ok (.istore_n 2, 1) := by decide +kernel
theorem dX7_leadsOf_6 : decode cX7_leadsOf 6 = .ok (.aload_n 0, 1) := by decide +kernel
theorem dX7_leadsOf_7 : decode cX7_leadsOf 7 = .ok (.invokevirtual 70, 3) := by decide +kernel
theorem dX7_leadsOf_10 : decode cX7_leadsOf 10 = .ok (.istore_n 3, 1) := by decide +kernel
theorem dX7_leadsOf_11 : decode cX7_leadsOf 11 = .ok (.ldc 48, 2) := by decide +kernel
theorem dX7_leadsOf_13 : decode cX7_leadsOf 13 = .ok (.istore 4, 2) := by decide +kernel
theorem dX7_leadsOf_15 : decode cX7_leadsOf 15 = .ok (.iconst 0, 1) := by decide +kernel
theorem dX7_leadsOf_16 : decode cX7_leadsOf 16 = .ok (.istore 5, 2) := by decide +kernel
theorem dX7_leadsOf_18 : decode cX7_leadsOf 18 = .ok (.iconst 0, 1) := by decide +kernel
theorem dX7_leadsOf_19 : decode cX7_leadsOf 19 = .ok (.istore 6, 2) := by decide +kernel
theorem dX7_leadsOf_21 : decode cX7_leadsOf 21 = .ok (.iload 6, 2) := by decide +kernel
theorem dX7_leadsOf_23 : decode cX7_leadsOf 23 = .ok (.iload_n 3, 1) := by decide +kernel
theorem dX7_leadsOf_24 : decode cX7_leadsOf 24 = .ok (.if_icmp .ge 39, 3) := by decide +kernel
theorem dX7_leadsOf_27 : decode cX7_leadsOf 27 = .ok (.iload 5, 2) := by decide +kernel
theorem dX7_leadsOf_29 : decode cX7_leadsOf 29 = .ok (.iload 4, 2) := by decide +kernel
theorem dX7_leadsOf_31 : decode cX7_leadsOf 31 = .ok (.iconst 0, 1) := by decide +kernel
theorem dX7_leadsOf_32 : decode cX7_leadsOf 32 = .ok (.invokestatic 45, 3) := by decide +kernel
theorem dX7_leadsOf_35 : decode cX7_leadsOf 35 = .ok (.iload_n 2, 1) := by decide +kernel
theorem dX7_leadsOf_36 : decode cX7_leadsOf 36 = .ok (.if_icmp .ne 7, 3) := by decide +kernel
theorem dX7_leadsOf_39 : decode cX7_leadsOf 39 = .ok (.iconst 1, 1) := by decide +kernel
theorem dX7_leadsOf_40 : decode cX7_leadsOf 40 = .ok (.goto 4, 3) := by decide +kernel
theorem dX7_leadsOf_43 : decode cX7_leadsOf 43 = .ok (.iconst 0, 1) := by decide +kernel
theorem dX7_leadsOf_44 : decode cX7_leadsOf 44 = .ok (.iadd, 1) := by decide +kernel
theorem dX7_leadsOf_45 : decode cX7_leadsOf 45 = .ok (.istore 5, 2) := by decide +kernel
theorem dX7_leadsOf_47 : decode cX7_leadsOf 47 = .ok (.aload_n 0, 1) := by decide +kernel
theorem dX7_leadsOf_48 : decode cX7_leadsOf 48 = .ok (.iload 4, 2) := by decide +kernel
theorem dX7_leadsOf_50 : decode cX7_leadsOf 50 = .ok (.iload 6, 2) := by decide +kernel
theorem dX7_leadsOf_52 : decode cX7_leadsOf 52 = .ok (.invokevirtual 49, 3) := by decide +kernel
theorem dX7_leadsOf_55 : decode cX7_leadsOf 55 = .ok (.istore 4, 2) := by decide +kernel
theorem dX7_leadsOf_57 : decode cX7_leadsOf 57 = .ok (.iinc 6 1, 3) := by decide +kernel
theorem dX7_leadsOf_60 : decode cX7_leadsOf 60 = .ok (.goto (-39), 3) := by decide +kernel
theorem dX7_leadsOf_63 : decode cX7_leadsOf 63 = .ok (.iload 5, 2) := by decide +kernel
theorem dX7_leadsOf_65 : decode cX7_leadsOf 65 = .ok (.ireturn, 1) := by decide +kernel
theorem dX7_meetingsOf_0 : decode cX7_meetingsOf 0 = .ok (.aload_n 0, 1) := by decide +kernel
theorem dX7_meetingsOf_1 : decode cX7_meetingsOf 1 = .ok (.iload_n 1, 1) := by decide +kernel
theorem dX7_meetingsOf_2 : decode cX7_meetingsOf 2 = .ok (.invokevirtual 67, 3) := by decide +kernel
theorem dX7_meetingsOf_5 : decode cX7_meetingsOf 5 = .ok (.istore_n 3, 1) := by decide +kernel
theorem dX7_meetingsOf_6 : decode cX7_meetingsOf 6 = .ok (.aload_n 0, 1) := by decide +kernel
theorem dX7_meetingsOf_7 : decode cX7_meetingsOf 7 = .ok (.iload_n 2, 1) := by decide +kernel
theorem dX7_meetingsOf_8 : decode cX7_meetingsOf 8 = .ok (.invokevirtual 67, 3) := by decide +kernel
theorem dX7_meetingsOf_11 : decode cX7_meetingsOf 11 = .ok (.istore 4, 2) := by decide +kernel
theorem dX7_meetingsOf_13 : decode cX7_meetingsOf 13 = .ok (.iload_n 3, 1) := by decide +kernel
theorem dX7_meetingsOf_14 : decode cX7_meetingsOf 14 = .ok (.iconst (-1), 1) := by decide +kernel
theorem dX7_meetingsOf_15 : decode cX7_meetingsOf 15 = .ok (.if_icmp .eq 9, 3) := by decide +kernel
theorem dX7_meetingsOf_18 : decode cX7_meetingsOf 18 = .ok (.iload 4, 2) := by decide +kernel
theorem dX7_meetingsOf_20 : decode cX7_meetingsOf 20 = .ok (.iconst (-1), 1) := by decide +kernel
theorem dX7_meetingsOf_21 : decode cX7_meetingsOf 21 = .ok (.if_icmp .ne 5, 3) := by decide +kernel
theorem dX7_meetingsOf_24 : decode cX7_meetingsOf 24 = .ok (.iconst 0, 1) := by decide +kernel
theorem dX7_meetingsOf_25 : decode cX7_meetingsOf 25 = .ok (.ireturn, 1) := by decide +kernel
theorem dX7_meetingsOf_26 : decode cX7_meetingsOf 26 = .ok (.aload_n 0, 1) := by decide +kernel
theorem dX7_meetingsOf_27 : decode cX7_meetingsOf 27 = .ok (.invokevirtual 70, 3) := by decide +kernel
theorem dX7_meetingsOf_30 : decode cX7_meetingsOf 30 = .ok (.istore 5, 2) := by decide +kernel
theorem dX7_meetingsOf_32 : decode cX7_meetingsOf 32 = .ok (.ldc 48, 2) := by decide +kernel
theorem dX7_meetingsOf_34 : decode cX7_meetingsOf 34 = .ok (.istore 6, 2) := by decide +kernel
theorem dX7_meetingsOf_36 : decode cX7_meetingsOf 36 = .ok (.iconst 0, 1) := by decide +kernel
theorem dX7_meetingsOf_37 : decode cX7_meetingsOf 37 = .ok (.istore 7, 2) := by decide +kernel
theorem dX7_meetingsOf_39 : decode cX7_meetingsOf 39 = .ok (.iconst 0, 1) := by decide +kernel
theorem dX7_meetingsOf_40 : decode cX7_meetingsOf 40 = .ok (.istore 8, 2) := by decide +kernel
theorem dX7_meetingsOf_42 : decode cX7_meetingsOf 42 = .ok (.iload 8, 2) := by decide +kernel
theorem dX7_meetingsOf_44 : decode cX7_meetingsOf 44 = .ok (.iload 5, 2) := by decide +kernel
theorem dX7_meetingsOf_46 : decode cX7_meetingsOf 46 = .ok (.if_icmp .ge 52, 3) := by decide +kernel
theorem dX7_meetingsOf_49 : decode cX7_meetingsOf 49 = .ok (.iload 7, 2) := by decide +kernel
theorem dX7_meetingsOf_51 : decode cX7_meetingsOf 51 = .ok (.aload_n 0, 1) := by decide +kernel
theorem dX7_meetingsOf_52 : decode cX7_meetingsOf 52 = .ok (.iload 6, 2) := by decide +kernel
theorem dX7_meetingsOf_54 : decode cX7_meetingsOf 54 = .ok (.iload_n 3, 1) := by decide +kernel
theorem dX7_meetingsOf_55 : decode cX7_meetingsOf 55 = .ok (.invokevirtual 73, 3) := by decide +kernel
theorem dX7_meetingsOf_58 : decode cX7_meetingsOf 58 = .ok (.aload_n 0, 1) := by decide +kernel
theorem dX7_meetingsOf_59 : decode cX7_meetingsOf 59 = .ok (.iload 6, 2) := by decide +kernel
theorem dX7_meetingsOf_61 : decode cX7_meetingsOf 61 = .ok (.iload 4, 2) := by decide +kernel
theorem dX7_meetingsOf_63 : decode cX7_meetingsOf 63 = .ok (.invokevirtual 73, 3) := by decide +kernel
theorem dX7_meetingsOf_66 : decode cX7_meetingsOf 66 = .ok (.isub, 1) := by decide +kernel
theorem dX7_meetingsOf_67 : decode cX7_meetingsOf 67 = .ok (.invokestatic 76, 3) := by decide +kernel
theorem dX7_meetingsOf_70 : decode cX7_meetingsOf 70 = .ok (.iconst 1, 1) := by decide +kernel
theorem dX7_meetingsOf_71 : decode cX7_meetingsOf 71 = .ok (.if_icmp .ne 7, 3) := by decide +kernel
theorem dX7_meetingsOf_74 : decode cX7_meetingsOf 74 = .ok (.iconst 1, 1) := by decide +kernel
theorem dX7_meetingsOf_75 : decode cX7_meetingsOf 75 = .ok (.goto 4, 3) := by decide +kernel
theorem dX7_meetingsOf_78 : decode cX7_meetingsOf 78 = .ok (.iconst 0, 1) := by decide +kernel
theorem dX7_meetingsOf_79 : decode cX7_meetingsOf 79 = .ok (.iadd, 1) := by decide +kernel
theorem dX7_meetingsOf_80 : decode cX7_meetingsOf 80 = .ok (.istore 7, 2) := by decide +kernel
theorem dX7_meetingsOf_82 : decode cX7_meetingsOf 82 = .ok (.aload_n 0, 1) := by decide +kernel
theorem dX7_meetingsOf_83 : decode cX7_meetingsOf 83 = .ok (.iload 6, 2) := by decide +kernel
theorem dX7_meetingsOf_85 : decode cX7_meetingsOf 85 = .ok (.iload 8, 2) := by decide +kernel
theorem dX7_meetingsOf_87 : decode cX7_meetingsOf 87 = .ok (.invokevirtual 49, 3) := by decide +kernel
theorem dX7_meetingsOf_90 : decode cX7_meetingsOf 90 = .ok (.istore 6, 2) := by decide +kernel
theorem dX7_meetingsOf_92 : decode cX7_meetingsOf 92 = .ok (.iinc 8 1, 3) := by decide +kernel
theorem dX7_meetingsOf_95 : decode cX7_meetingsOf 95 = .ok (.goto (-53), 3) := by decide +kernel
theorem dX7_meetingsOf_98 : decode cX7_meetingsOf 98 = .ok (.iload 7, 2) := by decide +kernel
theorem dX7_meetingsOf_100 : decode cX7_meetingsOf 100 = .ok (.ireturn, 1) := by decide +kernel
theorem dX8_init_0 : decode cX8_init 0 = .ok (.aload_n 0, 1) := by decide +kernel
theorem dX8_init_1 : decode cX8_init 1 = .ok (.invokespecial 3, 3) := by decide +kernel
theorem dX8_init_4 : decode cX8_init 4 = .ok (.aload_n 0, 1) := by decide +kernel
theorem dX8_init_5 : decode cX8_init 5 = .ok (.sipush 700, 3) := by decide +kernel
theorem dX8_init_8 : decode cX8_init 8 = .ok (.newarray .int, 2) := by decide +kernel
theorem dX8_init_10 : decode cX8_init 10 = .ok (.putfield 9, 3) := by decide +kernel
theorem dX8_init_13 : decode cX8_init 13 = .ok (.aload_n 0, 1) := by decide +kernel
theorem dX8_init_14 : decode cX8_init 14 = .ok (.sipush 700, 3) := by decide +kernel
theorem dX8_init_17 : decode cX8_init 17 = .ok (.newarray .int, 2) := by decide +kernel
theorem dX8_init_19 : decode cX8_init 19 = .ok (.putfield 15, 3) := by decide +kernel
theorem dX8_init_22 : decode cX8_init 22 = .ok (.aload_n 0, 1) := by decide +kernel
theorem dX8_init_23 : decode cX8_init 23 = .ok (.bipush 80, 2) := by decide +kernel
theorem dX8_init_25 : decode cX8_init 25 = .ok (.newarray .int, 2) := by decide +kernel
theorem dX8_init_27 : decode cX8_init 27 = .ok (.putfield 18, 3) := by decide +kernel
theorem dX8_init_30 : decode cX8_init 30 = .ok (.aload_n 0, 1) := by decide +kernel
theorem dX8_init_31 : decode cX8_init 31 = .ok (.bipush 7, 2) := by decide +kernel
theorem dX8_init_33 : decode cX8_init 33 = .ok (.newarray .int, 2) := by decide +kernel
theorem dX8_init_35 : decode cX8_init 35 = .ok (.putfield 21, 3) := by decide +kernel
theorem dX8_init_38 : decode cX8_init 38 = .ok (.aload_n 0, 1) := by decide +kernel
theorem dX8_init_39 : decode cX8_init 39 = .ok (.bipush 40, 2) := by decide +kernel
theorem dX8_init_41 : decode cX8_init 41 = .ok (.newarray .int, 2) := by decide +kernel
theorem dX8_init_43 : decode cX8_init 43 = .ok (.putfield 24, 3) := by decide +kernel
theorem dX8_init_46 : decode cX8_init 46 = .ok (.aload_n 0, 1) := by decide +kernel
theorem dX8_init_47 : decode cX8_init 47 = .ok (.iconst 0, 1) := by decide +kernel
theorem dX8_init_48 : decode cX8_init 48 = .ok (.putfield 27, 3) := by decide +kernel
theorem dX8_init_51 : decode cX8_init 51 = .ok (.aload_n 0, 1) := by decide +kernel
theorem dX8_init_52 : decode cX8_init 52 = .ok (.iconst 0, 1) := by decide +kernel
theorem dX8_init_53 : decode cX8_init 53 = .ok (.putfield 31, 3) := by decide +kernel
theorem dX8_init_56 : decode cX8_init 56 = .ok (.return_, 1) := by decide +kernel
theorem dX8_clear_0 : decode cX8_clear 0 = .ok (.aload_n 0, 1) := by decide +kernel
theorem dX8_clear_1 : decode cX8_clear 1 = .ok (.iconst 0, 1) := by decide +kernel
theorem dX8_clear_2 : decode cX8_clear 2 = .ok (.putfield 27, 3) := by decide +kernel
theorem dX8_clear_5 : decode cX8_clear 5 = .ok (.aload_n 0, 1) := by decide +kernel
theorem dX8_clear_6 : decode cX8_clear 6 = .ok (.iconst 0, 1) := by decide +kernel
theorem dX8_clear_7 : decode cX8_clear 7 = .ok (.putfield 31, 3) := by decide +kernel
theorem dX8_clear_10 : decode cX8_clear 10 = .ok (.return_, 1) := by decide +kernel
theorem dX8_isTold_0 : decode cX8_isTold 0 = .ok (.aload_n 0, 1) := by decide +kernel
theorem dX8_isTold_1 : decode cX8_isTold 1 = .ok (.getfield 27, 3) := by decide +kernel
theorem dX8_isTold_4 : decode cX8_isTold 4 = .ok (.ifCond .le 7, 3) := by decide +kernel
theorem dX8_isTold_7 : decode cX8_isTold 7 = .ok (.iconst 1, 1) := by decide +kernel
theorem dX8_isTold_8 : decode cX8_isTold 8 = .ok (.goto 4, 3) := by decide +kernel
theorem dX8_isTold_11 : decode cX8_isTold 11 = .ok (.iconst 0, 1) := by decide +kernel
theorem dX8_isTold_12 : decode cX8_isTold 12 = .ok (.ireturn, 1) := by decide +kernel
theorem dX8_putOperand_0 : decode cX8_putOperand 0 = .ok (.aload_n 0, 1) := by decide +kernel
theorem dX8_putOperand_1 : decode cX8_putOperand 1 = .ok (.getfield 27, 3) := by decide +kernel
theorem dX8_putOperand_4 : decode cX8_putOperand 4 = .ok (.ifCond .lt 57, 3) := by decide +kernel
theorem dX8_putOperand_7 : decode cX8_putOperand 7 = .ok (.aload_n 0, 1) := by decide +kernel
theorem dX8_putOperand_8 : decode cX8_putOperand 8 = .ok (.getfield 27, 3) := by decide +kernel
theorem dX8_putOperand_11 : decode cX8_putOperand 11 = .ok (.aload_n 0, 1) := by decide +kernel
theorem dX8_putOperand_12 : decode cX8_putOperand 12 = .ok (.getfield 9, 3) := by decide +kernel
theorem dX8_putOperand_15 : decode cX8_putOperand 15 = .ok (.arraylength, 1) := by decide +kernel
theorem dX8_putOperand_16 : decode cX8_putOperand 16 = .ok (.if_icmp .ge 45, 3) := by decide +kernel
theorem dX8_putOperand_19 : decode cX8_putOperand 19 = .ok (.aload_n 0, 1) := by decide +kernel
theorem dX8_putOperand_20 : decode cX8_putOperand 20 = .ok (.getfield 27, 3) := by decide +kernel
theorem dX8_putOperand_23 : decode cX8_putOperand 23 = .ok (.aload_n 0, 1) := by decide +kernel
theorem dX8_putOperand_24 : decode cX8_putOperand 24 = .ok (.getfield 15, 3) := by decide +kernel
theorem dX8_putOperand_27 : decode cX8_putOperand 27 = .ok (.arraylength, 1) := by decide +kernel
theorem dX8_putOperand_28 : decode cX8_putOperand 28 = .ok (.if_icmp .ge 33, 3) := by decide +kernel
theorem dX8_putOperand_31 : decode cX8_putOperand 31 = .ok (.aload_n 0, 1) := by decide +kernel
theorem dX8_putOperand_32 : decode cX8_putOperand 32 = .ok (.getfield 9, 3) := by decide +kernel
theorem dX8_putOperand_35 : decode cX8_putOperand 35 = .ok (.aload_n 0, 1) := by decide +kernel
theorem dX8_putOperand_36 : decode cX8_putOperand 36 = .ok (.getfield 27, 3) := by decide +kernel
theorem dX8_putOperand_39 : decode cX8_putOperand 39 = .ok (.iload_n 1, 1) := by decide +kernel
theorem dX8_putOperand_40 : decode cX8_putOperand 40 = .ok (.iastore, 1) := by decide +kernel
theorem dX8_putOperand_41 : decode cX8_putOperand 41 = .ok (.aload_n 0, 1) := by decide +kernel
theorem dX8_putOperand_42 : decode cX8_putOperand 42 = .ok (.getfield 15, 3) := by decide +kernel
theorem dX8_putOperand_45 : decode cX8_putOperand 45 = .ok (.aload_n 0, 1) := by decide +kernel
theorem dX8_putOperand_46 : decode cX8_putOperand 46 = .ok (.getfield 27, 3) := by decide +kernel
theorem dX8_putOperand_49 : decode cX8_putOperand 49 = .ok (.iload_n 2, 1) := by decide +kernel
theorem dX8_putOperand_50 : decode cX8_putOperand 50 = .ok (.iastore, 1) := by decide +kernel
theorem dX8_putOperand_51 : decode cX8_putOperand 51 = .ok (.aload_n 0, 1) := by decide +kernel
theorem dX8_putOperand_52 : decode cX8_putOperand 52 = .ok (.dup, 1) := by decide +kernel
theorem dX8_putOperand_53 : decode cX8_putOperand 53 = .ok (.getfield 27, 3) := by decide +kernel
theorem dX8_putOperand_56 : decode cX8_putOperand 56 = .ok (.iconst 1, 1) := by decide +kernel
theorem dX8_putOperand_57 : decode cX8_putOperand 57 = .ok (.iadd, 1) := by decide +kernel
theorem dX8_putOperand_58 : decode cX8_putOperand 58 = .ok (.putfield 27, 3) := by decide +kernel
theorem dX8_putOperand_61 : decode cX8_putOperand 61 = .ok (.return_, 1) := by decide +kernel
theorem dX8_join_0 : decode cX8_join 0 = .ok (.iload_n 1, 1) := by decide +kernel
theorem dX8_join_1 : decode cX8_join 1 = .ok (.bipush 30, 2) := by decide +kernel
theorem dX8_join_3 : decode cX8_join 3 = .ok (.if_icmp .eq 15, 3) := by decide +kernel
theorem dX8_join_6 : decode cX8_join 6 = .ok (.iload_n 1, 1) := by decide +kernel
theorem dX8_join_7 : decode cX8_join 7 = .ok (.ifCond .eq 11, 3) := by decide +kernel
theorem dX8_join_10 : decode cX8_join 10 = .ok (.aload_n 0, 1) := by decide +kernel
theorem dX8_join_11 : decode cX8_join 11 = .ok (.iload_n 1, 1) := by decide +kernel
theorem dX8_join_12 : decode cX8_join 12 = .ok (.bipush 10, 2) := by decide +kernel
theorem dX8_join_14 : decode cX8_join 14 = .ok (.idiv, 1) := by decide +kernel
theorem dX8_join_15 : decode cX8_join 15 = .ok (.invokevirtual 34, 3) := by decide +kernel
theorem dX8_join_18 : decode cX8_join 18 = .ok (.aload_n 0, 1) := by decide +kernel
theorem dX8_join_19 : decode cX8_join 19 = .ok (.getfield 31, 3) := by decide +kernel
theorem dX8_join_22 : decode cX8_join 22 = .ok (.ifCond .lt 35, 3) := by decide +kernel
theorem dX8_join_25 : decode cX8_join 25 = .ok (.aload_n 0, 1) := by decide +kernel
theorem dX8_join_26 : decode cX8_join 26 = .ok (.getfield 31, 3) := by decide +kernel
theorem dX8_join_29 : decode cX8_join 29 = .ok (.aload_n 0, 1) := by decide +kernel
theorem dX8_join_30 : decode cX8_join 30 = .ok (.getfield 18, 3) := by decide +kernel
theorem dX8_join_33 : decode cX8_join 33 = .ok (.arraylength, 1) := by decide +kernel
theorem dX8_join_34 : decode cX8_join 34 = .ok (.if_icmp .ge 23, 3) := by decide +kernel
theorem dX8_join_37 : decode cX8_join 37 = .ok (.aload_n 0, 1) := by decide +kernel
theorem dX8_join_38 : decode cX8_join 38 = .ok (.getfield 18, 3) := by decide +kernel
theorem dX8_join_41 : decode cX8_join 41 = .ok (.aload_n 0, 1) := by decide +kernel
theorem dX8_join_42 : decode cX8_join 42 = .ok (.getfield 31, 3) := by decide +kernel
theorem dX8_join_45 : decode cX8_join 45 = .ok (.iload_n 1, 1) := by decide +kernel
theorem dX8_join_46 : decode cX8_join 46 = .ok (.iastore, 1) := by decide +kernel
theorem dX8_join_47 : decode cX8_join 47 = .ok (.aload_n 0, 1) := by decide +kernel
theorem dX8_join_48 : decode cX8_join 48 = .ok (.dup, 1) := by decide +kernel
theorem dX8_join_49 : decode cX8_join 49 = .ok (.getfield 31, 3) := by decide +kernel
theorem dX8_join_52 : decode cX8_join 52 = .ok (.iconst 1, 1) := by decide +kernel
theorem dX8_join_53 : decode cX8_join 53 = .ok (.iadd, 1) := by decide +kernel
theorem dX8_join_54 : decode cX8_join 54 = .ok (.putfield 31, 3) := by decide +kernel
theorem dX8_join_57 : decode cX8_join 57 = .ok (.return_, 1) := by decide +kernel
theorem dX8_close_0 : decode cX8_close 0 = .ok (.aload_n 0, 1) := by decide +kernel
theorem dX8_close_1 : decode cX8_close 1 = .ok (.iconst 1, 1) := by decide +kernel
theorem dX8_close_2 : decode cX8_close 2 = .ok (.invokevirtual 34, 3) := by decide +kernel
theorem dX8_close_5 : decode cX8_close 5 = .ok (.aload_n 0, 1) := by decide +kernel
theorem dX8_close_6 : decode cX8_close 6 = .ok (.getfield 31, 3) := by decide +kernel
theorem dX8_close_9 : decode cX8_close 9 = .ok (.ifCond .le 13, 3) := by decide +kernel
theorem dX8_close_12 : decode cX8_close 12 = .ok (.aload_n 0, 1) := by decide +kernel
theorem dX8_close_13 : decode cX8_close 13 = .ok (.dup, 1) := by decide +kernel
theorem dX8_close_14 : decode cX8_close 14 = .ok (.getfield 31, 3) := by decide +kernel
theorem dX8_close_17 : decode cX8_close 17 = .ok (.iconst 1, 1) := by decide +kernel
theorem dX8_close_18 : decode cX8_close 18 = .ok (.isub, 1) := by decide +kernel
theorem dX8_close_19 : decode cX8_close 19 = .ok (.putfield 31, 3) := by decide +kernel
theorem dX8_close_22 : decode cX8_close 22 = .ok (.return_, 1) := by decide +kernel
theorem dX8_finish_0 : decode cX8_finish 0 = .ok (.aload_n 0, 1) := by decide +kernel
theorem dX8_finish_1 : decode cX8_finish 1 = .ok (.iconst 1, 1) := by decide +kernel
theorem dX8_finish_2 : decode cX8_finish 2 = .ok (.invokevirtual 34, 3) := by decide +kernel
theorem dX8_finish_5 : decode cX8_finish 5 = .ok (.return_, 1) := by decide +kernel
theorem dX8_putWaiting_0 : decode cX8_putWaiting 0 = .ok (.aload_n 0, 1) := by decide +kernel
theorem dX8_putWaiting_1 : decode cX8_putWaiting 1 = .ok (.getfield 31, 3) := by decide +kernel
theorem dX8_putWaiting_4 : decode cX8_putWaiting 4 = .ok (.ifCond .le 93, 3) := by decide +kernel
theorem dX8_putWaiting_7 : decode cX8_putWaiting 7 = .ok (.aload_n 0, 1) := by decide +kernel
theorem dX8_putWaiting_8 : decode cX8_putWaiting 8 = .ok (.getfield 31, 3) := by decide +kernel
theorem dX8_putWaiting_11 : decode cX8_putWaiting 11 = .ok (.aload_n 0, 1) := by decide +kernel
theorem dX8_putWaiting_12 : decode cX8_putWaiting 12 = .ok (.getfield 18, 3) := by decide +kernel
theorem dX8_putWaiting_15 : decode cX8_putWaiting 15 = .ok (.arraylength, 1) := by decide +kernel
theorem dX8_putWaiting_16 : decode cX8_putWaiting 16 = .ok (.if_icmp .gt 81, 3) := by decide +kernel
theorem dX8_putWaiting_19 : decode cX8_putWaiting 19 = .ok (.aload_n 0, 1) := by decide +kernel
theorem dX8_putWaiting_20 : decode cX8_putWaiting 20 = .ok (.getfield 18, 3) := by decide +kernel
theorem dX8_putWaiting_23 : decode cX8_putWaiting 23 = .ok (.aload_n 0, 1) := by decide +kernel
theorem dX8_putWaiting_24 : decode cX8_putWaiting 24 = .ok (.getfield 31, 3) := by decide +kernel
theorem dX8_putWaiting_27 : decode cX8_putWaiting 27 = .ok (.iconst 1, 1) := by decide +kernel
theorem dX8_putWaiting_28 : decode cX8_putWaiting 28 = .ok (.isub, 1) := by decide +kernel
theorem dX8_putWaiting_29 : decode cX8_putWaiting 29 = .ok (.iaload, 1) := by decide +kernel
theorem dX8_putWaiting_30 : decode cX8_putWaiting 30 = .ok (.bipush 10, 2) := by decide +kernel
theorem dX8_putWaiting_32 : decode cX8_putWaiting 32 = .ok (.idiv, 1) := by decide +kernel
theorem dX8_putWaiting_33 : decode cX8_putWaiting 33 = .ok (.iload_n 1, 1) := by decide +kernel
theorem dX8_putWaiting_34 : decode cX8_putWaiting 34 = .ok (.if_icmp .lt 63, 3) := by decide +kernel
theorem dX8_putWaiting_37 : decode cX8_putWaiting 37 = .ok (.aload_n 0, 1) := by decide +kernel
theorem dX8_putWaiting_38 : decode cX8_putWaiting 38 = .ok (.dup, 1) := by decide +kernel
theorem dX8_putWaiting_39 : decode cX8_putWaiting 39 = .ok (.getfield 31, 3) := by decide +kernel
theorem dX8_putWaiting_42 : decode cX8_putWaiting 42 = .ok (.iconst 1, 1) := by decide +kernel
theorem dX8_putWaiting_43 : decode cX8_putWaiting 43 = .ok (.isub, 1) := by decide +kernel
theorem dX8_putWaiting_44 : decode cX8_putWaiting 44 = .ok (.putfield 31, 3) := by decide +kernel
theorem dX8_putWaiting_47 : decode cX8_putWaiting 47 = .ok (.aload_n 0, 1) := by decide +kernel
theorem dX8_putWaiting_48 : decode cX8_putWaiting 48 = .ok (.getfield 27, 3) := by decide +kernel
theorem dX8_putWaiting_51 : decode cX8_putWaiting 51 = .ok (.ifCond .lt (-51), 3) := by decide +kernel
theorem dX8_putWaiting_54 : decode cX8_putWaiting 54 = .ok (.aload_n 0, 1) := by decide +kernel
theorem dX8_putWaiting_55 : decode cX8_putWaiting 55 = .ok (.getfield 27, 3) := by decide +kernel
theorem dX8_putWaiting_58 : decode cX8_putWaiting 58 = .ok (.aload_n 0, 1) := by decide +kernel
theorem dX8_putWaiting_59 : decode cX8_putWaiting 59 = .ok (.getfield 9, 3) := by decide +kernel
theorem dX8_putWaiting_62 : decode cX8_putWaiting 62 = .ok (.arraylength, 1) := by decide +kernel
theorem dX8_putWaiting_63 : decode cX8_putWaiting 63 = .ok (.if_icmp .ge (-63), 3) := by decide +kernel
theorem dX8_putWaiting_66 : decode cX8_putWaiting 66 = .ok (.aload_n 0, 1) := by decide +kernel
theorem dX8_putWaiting_67 : decode cX8_putWaiting 67 = .ok (.getfield 9, 3) := by decide +kernel
theorem dX8_putWaiting_70 : decode cX8_putWaiting 70 = .ok (.aload_n 0, 1) := by decide +kernel
theorem dX8_putWaiting_71 : decode cX8_putWaiting 71 = .ok (.getfield 27, 3) := by decide +kernel
theorem dX8_putWaiting_74 : decode cX8_putWaiting 74 = .ok (.aload_n 0, 1) := by decide +kernel
theorem dX8_putWaiting_75 : decode cX8_putWaiting 75 = .ok (.getfield 18, 3) := by decide +kernel
theorem dX8_putWaiting_78 : decode cX8_putWaiting 78 = .ok (.aload_n 0, 1) := by decide +kernel
theorem dX8_putWaiting_79 : decode cX8_putWaiting 79 = .ok (.getfield 31, 3) := by decide +kernel
theorem dX8_putWaiting_82 : decode cX8_putWaiting 82 = .ok (.iaload, 1) := by decide +kernel
theorem dX8_putWaiting_83 : decode cX8_putWaiting 83 = .ok (.iastore, 1) := by decide +kernel
theorem dX8_putWaiting_84 : decode cX8_putWaiting 84 = .ok (.aload_n 0, 1) := by decide +kernel
theorem dX8_putWaiting_85 : decode cX8_putWaiting 85 = .ok (.dup, 1) := by decide +kernel
theorem dX8_putWaiting_86 : decode cX8_putWaiting 86 = .ok (.getfield 27, 3) := by decide +kernel
theorem dX8_putWaiting_89 : decode cX8_putWaiting 89 = .ok (.iconst 1, 1) := by decide +kernel
theorem dX8_putWaiting_90 : decode cX8_putWaiting 90 = .ok (.iadd, 1) := by decide +kernel
theorem dX8_putWaiting_91 : decode cX8_putWaiting 91 = .ok (.putfield 27, 3) := by decide +kernel
theorem dX8_putWaiting_94 : decode cX8_putWaiting 94 = .ok (.goto (-94), 3) := by decide +kernel
theorem dX8_putWaiting_97 : decode cX8_putWaiting 97 = .ok (.return_, 1) := by decide +kernel
theorem dX8_worth_0 : decode cX8_worth 0 = .ok (.aload_n 0, 1) := by decide +kernel
theorem dX8_worth_1 : decode cX8_worth 1 = .ok (.getfield 21, 3) := by decide +kernel
theorem dX8_worth_4 : decode cX8_worth 4 = .ok (.iconst 0, 1) := by decide +kernel
theorem dX8_worth_5 : decode cX8_worth 5 = .ok (.iload_n 1, 1) := by decide +kernel
theorem dX8_worth_6 : decode cX8_worth 6 = .ok (.iastore, 1) := by decide +kernel
theorem dX8_worth_7 : decode cX8_worth 7 = .ok (.aload_n 0, 1) := by decide +kernel
theorem dX8_worth_8 : decode cX8_worth 8 = .ok (.getfield 21, 3) := by decide +kernel
theorem dX8_worth_11 : decode cX8_worth 11 = .ok (.iconst 1, 1) := by decide +kernel
theorem dX8_worth_12 : decode cX8_worth 12 = .ok (.iload_n 2, 1) := by decide +kernel
theorem dX8_worth_13 : decode cX8_worth 13 = .ok (.iastore, 1) := by decide +kernel
theorem dX8_worth_14 : decode cX8_worth 14 = .ok (.aload_n 0, 1) := by decide +kernel
theorem dX8_worth_15 : decode cX8_worth 15 = .ok (.getfield 21, 3) := by decide +kernel
theorem dX8_worth_18 : decode cX8_worth 18 = .ok (.iconst 2, 1) := by decide +kernel
theorem dX8_worth_19 : decode cX8_worth 19 = .ok (.iload_n 3, 1) := by decide +kernel
theorem dX8_worth_20 : decode cX8_worth 20 = .ok (.iastore, 1) := by decide +kernel
theorem dX8_worth_21 : decode cX8_worth 21 = .ok (.aload_n 0, 1) := by decide +kernel
theorem dX8_worth_22 : decode cX8_worth 22 = .ok (.getfield 21, 3) := by decide +kernel
theorem dX8_worth_25 : decode cX8_worth 25 = .ok (.iconst 3, 1) := by decide +kernel
theorem dX8_worth_26 : decode cX8_worth 26 = .ok (.iload 4, 2) := by decide +kernel
theorem dX8_worth_28 : decode cX8_worth 28 = .ok (.iastore, 1) := by decide +kernel
theorem dX8_worth_29 : decode cX8_worth 29 = .ok (.aload_n 0, 1) := by decide +kernel
theorem dX8_worth_30 : decode cX8_worth 30 = .ok (.getfield 21, 3) := by decide +kernel
theorem dX8_worth_33 : decode cX8_worth 33 = .ok (.iconst 4, 1) := by decide +kernel
theorem dX8_worth_34 : decode cX8_worth 34 = .ok (.iload 5, 2) := by decide +kernel
theorem dX8_worth_36 : decode cX8_worth 36 = .ok (.iastore, 1) := by decide +kernel
theorem dX8_worth_37 : decode cX8_worth 37 = .ok (.aload_n 0, 1) := by decide +kernel
theorem dX8_worth_38 : decode cX8_worth 38 = .ok (.getfield 21, 3) := by decide +kernel
theorem dX8_worth_41 : decode cX8_worth 41 = .ok (.iconst 5, 1) := by decide +kernel
theorem dX8_worth_42 : decode cX8_worth 42 = .ok (.iload 6, 2) := by decide +kernel
theorem dX8_worth_44 : decode cX8_worth 44 = .ok (.iastore, 1) := by decide +kernel
theorem dX8_worth_45 : decode cX8_worth 45 = .ok (.aload_n 0, 1) := by decide +kernel
theorem dX8_worth_46 : decode cX8_worth 46 = .ok (.getfield 21, 3) := by decide +kernel
theorem dX8_worth_49 : decode cX8_worth 49 = .ok (.bipush 6, 2) := by decide +kernel
theorem dX8_worth_51 : decode cX8_worth 51 = .ok (.iload 7, 2) := by decide +kernel
theorem dX8_worth_53 : decode cX8_worth 53 = .ok (.iastore, 1) := by decide +kernel
theorem dX8_worth_54 : decode cX8_worth 54 = .ok (.iconst 0, 1) := by decide +kernel
theorem dX8_worth_55 : decode cX8_worth 55 = .ok (.istore 8, 2) := by decide +kernel
theorem dX8_worth_57 : decode cX8_worth 57 = .ok (.iconst 0, 1) := by decide +kernel
theorem dX8_worth_58 : decode cX8_worth 58 = .ok (.istore 9, 2) := by decide +kernel
theorem dX8_worth_60 : decode cX8_worth 60 = .ok (.iload 9, 2) := by decide +kernel
theorem dX8_worth_62 : decode cX8_worth 62 = .ok (.aload_n 0, 1) := by decide +kernel
theorem dX8_worth_63 : decode cX8_worth 63 = .ok (.getfield 27, 3) := by decide +kernel
theorem dX8_worth_66 : decode cX8_worth 66 = .ok (.if_icmp .ge 175, 3) := by decide +kernel
theorem dX8_worth_69 : decode cX8_worth 69 = .ok (.iload 9, 2) := by decide +kernel
theorem dX8_worth_71 : decode cX8_worth 71 = .ok (.aload_n 0, 1) := by decide +kernel
theorem dX8_worth_72 : decode cX8_worth 72 = .ok (.getfield 9, 3) := by decide +kernel
theorem dX8_worth_75 : decode cX8_worth 75 = .ok (.arraylength, 1) := by decide +kernel
theorem dX8_worth_76 : decode cX8_worth 76 = .ok (.if_icmp .ge 165, 3) := by decide +kernel
theorem dX8_worth_79 : decode cX8_worth 79 = .ok (.aload_n 0, 1) := by decide +kernel
theorem dX8_worth_80 : decode cX8_worth 80 = .ok (.getfield 9, 3) := by decide +kernel
theorem dX8_worth_83 : decode cX8_worth 83 = .ok (.iload 9, 2) := by decide +kernel
theorem dX8_worth_85 : decode cX8_worth 85 = .ok (.iaload, 1) := by decide +kernel
theorem dX8_worth_86 : decode cX8_worth 86 = .ok (.istore 10, 2) := by decide +kernel
theorem dX8_worth_88 : decode cX8_worth 88 = .ok (.iload 10, 2) := by decide +kernel
theorem dX8_worth_90 : decode cX8_worth 90 = .ok (.iconst 1, 1) := by decide +kernel
theorem dX8_worth_91 : decode cX8_worth 91 = .ok (.if_icmp .eq 9, 3) := by decide +kernel
theorem dX8_worth_94 : decode cX8_worth 94 = .ok (.iload 10, 2) := by decide +kernel
theorem dX8_worth_96 : decode cX8_worth 96 = .ok (.iconst 2, 1) := by decide +kernel
theorem dX8_worth_97 : decode cX8_worth 97 = .ok (.if_icmp .ne 37, 3) := by decide +kernel
theorem dX8_worth_100 : decode cX8_worth 100 = .ok (.iload 8, 2) := by decide +kernel
theorem dX8_worth_102 : decode cX8_worth 102 = .ok (.ifCond .lt 133, 3) := by decide +kernel
theorem dX8_worth_105 : decode cX8_worth 105 = .ok (.iload 8, 2) := by decide +kernel
theorem dX8_worth_107 : decode cX8_worth 107 = .ok (.aload_n 0, 1) := by decide +kernel
theorem dX8_worth_108 : decode cX8_worth 108 = .ok (.getfield 24, 3) := by decide +kernel
theorem dX8_worth_111 : decode cX8_worth 111 = .ok (.arraylength, 1) := by decide +kernel
theorem dX8_worth_112 : decode cX8_worth 112 = .ok (.if_icmp .ge 123, 3) := by decide +kernel
theorem dX8_worth_115 : decode cX8_worth 115 = .ok (.aload_n 0, 1) := by decide +kernel
theorem dX8_worth_116 : decode cX8_worth 116 = .ok (.getfield 24, 3) := by decide +kernel
theorem dX8_worth_119 : decode cX8_worth 119 = .ok (.iload 8, 2) := by decide +kernel
theorem dX8_worth_121 : decode cX8_worth 121 = .ok (.aload_n 0, 1) := by decide +kernel
theorem dX8_worth_122 : decode cX8_worth 122 = .ok (.iload 9, 2) := by decide +kernel
theorem dX8_worth_124 : decode cX8_worth 124 = .ok (.invokevirtual 38, 3) := by decide +kernel
theorem dX8_worth_127 : decode cX8_worth 127 = .ok (.iastore, 1) := by decide +kernel
theorem dX8_worth_128 : decode cX8_worth 128 = .ok (.iinc 8 1, 3) := by decide +kernel
theorem dX8_worth_131 : decode cX8_worth 131 = .ok (.goto 104, 3) := by decide +kernel
theorem dX8_worth_134 : decode cX8_worth 134 = .ok (.iload 10, 2) := by decide +kernel
theorem dX8_worth_136 : decode cX8_worth 136 = .ok (.bipush 30, 2) := by decide +kernel
theorem dX8_worth_138 : decode cX8_worth 138 = .ok (.if_icmp .ne 48, 3) := by decide +kernel
theorem dX8_worth_141 : decode cX8_worth 141 = .ok (.iload 8, 2) := by decide +kernel
theorem dX8_worth_143 : decode cX8_worth 143 = .ok (.iconst 1, 1) := by decide +kernel
theorem dX8_worth_144 : decode cX8_worth 144 = .ok (.if_icmp .lt 91, 3) := by decide +kernel
theorem dX8_worth_147 : decode cX8_worth 147 = .ok (.iload 8, 2) := by decide +kernel
theorem dX8_worth_149 : decode cX8_worth 149 = .ok (.aload_n 0, 1) := by decide +kernel
theorem dX8_worth_150 : decode cX8_worth 150 = .ok (.getfield 24, 3) := by decide +kernel
theorem dX8_worth_153 : decode cX8_worth 153 = .ok (.arraylength, 1) := by decide +kernel
theorem dX8_worth_154 : decode cX8_worth 154 = .ok (.if_icmp .gt 81, 3) := by decide +kernel
theorem dX8_worth_157 : decode cX8_worth 157 = .ok (.aload_n 0, 1) := by decide +kernel
theorem dX8_worth_158 : decode cX8_worth 158 = .ok (.getfield 24, 3) := by decide +kernel
theorem dX8_worth_161 : decode cX8_worth 161 = .ok (.iload 8, 2) := by decide +kernel
theorem dX8_worth_163 : decode cX8_worth 163 = .ok (.iconst 1, 1) := by decide +kernel
theorem dX8_worth_164 : decode cX8_worth 164 = .ok (.isub, 1) := by decide +kernel
theorem dX8_worth_165 : decode cX8_worth 165 = .ok (.aload_n 0, 1) := by decide +kernel
theorem dX8_worth_166 : decode cX8_worth 166 = .ok (.getfield 24, 3) := by decide +kernel
theorem dX8_worth_169 : decode cX8_worth 169 = .ok (.iload 8, 2) := by decide +kernel
theorem dX8_worth_171 : decode cX8_worth 171 = .ok (.iconst 1, 1) := by decide +kernel
theorem dX8_worth_172 : decode cX8_worth 172 = .ok (.isub, 1) := by decide +kernel
theorem dX8_worth_173 : decode cX8_worth 173 = .ok (.iaload, 1) := by decide +kernel
theorem dX8_worth_174 : decode cX8_worth 174 = .ok (.ifCond .ne 7, 3) := by decide +kernel
theorem dX8_worth_177 : decode cX8_worth 177 = .ok (.iconst 1, 1) := by decide +kernel
theorem dX8_worth_178 : decode cX8_worth 178 = .ok (.goto 4, 3) := by decide +kernel
theorem dX8_worth_181 : decode cX8_worth 181 = .ok (.iconst 0, 1) := by decide +kernel
theorem dX8_worth_182 : decode cX8_worth 182 = .ok (.iastore, 1) := by decide +kernel
theorem dX8_worth_183 : decode cX8_worth 183 = .ok (.goto 52, 3) := by decide +kernel
theorem dX8_worth_186 : decode cX8_worth 186 = .ok (.iload 8, 2) := by decide +kernel
theorem dX8_worth_188 : decode cX8_worth 188 = .ok (.iconst 2, 1) := by decide +kernel
theorem dX8_worth_189 : decode cX8_worth 189 = .ok (.if_icmp .lt 46, 3) := by decide +kernel
theorem dX8_worth_192 : decode cX8_worth 192 = .ok (.iload 8, 2) := by decide +kernel
theorem dX8_worth_194 : decode cX8_worth 194 = .ok (.aload_n 0, 1) := by decide +kernel
theorem dX8_worth_195 : decode cX8_worth 195 = .ok (.getfield 24, 3) := by decide +kernel
theorem dX8_worth_198 : decode cX8_worth 198 = .ok (.arraylength, 1) := by decide +kernel
theorem dX8_worth_199 : decode cX8_worth 199 = .ok (.if_icmp .gt 36, 3) := by decide +kernel
theorem dX8_worth_202 : decode cX8_worth 202 = .ok (.iinc 8 (-1), 3) := by decide +kernel
theorem dX8_worth_205 : decode cX8_worth 205 = .ok (.aload_n 0, 1) := by decide +kernel
theorem dX8_worth_206 : decode cX8_worth 206 = .ok (.getfield 24, 3) := by decide +kernel
theorem dX8_worth_209 : decode cX8_worth 209 = .ok (.iload 8, 2) := by decide +kernel
theorem dX8_worth_211 : decode cX8_worth 211 = .ok (.iconst 1, 1) := by decide +kernel
theorem dX8_worth_212 : decode cX8_worth 212 = .ok (.isub, 1) := by decide +kernel
theorem dX8_worth_213 : decode cX8_worth 213 = .ok (.iload 10, 2) := by decide +kernel
theorem dX8_worth_215 : decode cX8_worth 215 = .ok (.aload_n 0, 1) := by decide +kernel
theorem dX8_worth_216 : decode cX8_worth 216 = .ok (.getfield 24, 3) := by decide +kernel
theorem dX8_worth_219 : decode cX8_worth 219 = .ok (.iload 8, 2) := by decide +kernel
theorem dX8_worth_221 : decode cX8_worth 221 = .ok (.iconst 1, 1) := by decide +kernel
theorem dX8_worth_222 : decode cX8_worth 222 = .ok (.isub, 1) := by decide +kernel
theorem dX8_worth_223 : decode cX8_worth 223 = .ok (.iaload, 1) := by decide +kernel
theorem dX8_worth_224 : decode cX8_worth 224 = .ok (.aload_n 0, 1) := by decide +kernel
theorem dX8_worth_225 : decode cX8_worth 225 = .ok (.getfield 24, 3) := by decide +kernel
theorem dX8_worth_228 : decode cX8_worth 228 = .ok (.iload 8, 2) := by decide +kernel
theorem dX8_worth_230 : decode cX8_worth 230 = .ok (.iaload, 1) := by decide +kernel
theorem dX8_worth_231 : decode cX8_worth 231 = .ok (.invokestatic 42, 3) := by decide +kernel
theorem dX8_worth_234 : decode cX8_worth 234 = .ok (.iastore, 1) := by decide +kernel
theorem dX8_worth_235 : decode cX8_worth 235 = .ok (.iinc 9 1, 3) := by decide +kernel
theorem dX8_worth_238 : decode cX8_worth 238 = .ok (.goto (-178), 3) := by decide +kernel
theorem dX8_worth_241 : decode cX8_worth 241 = .ok (.aload_n 0, 1) := by decide +kernel
theorem dX8_worth_242 : decode cX8_worth 242 = .ok (.getfield 24, 3) := by decide +kernel
theorem dX8_worth_245 : decode cX8_worth 245 = .ok (.iconst 0, 1) := by decide +kernel
theorem dX8_worth_246 : decode cX8_worth 246 = .ok (.iaload, 1) := by decide +kernel
theorem dX8_worth_247 : decode cX8_worth 247 = .ok (.ireturn, 1) := by decide +kernel
theorem dX8_operandAt_0 : decode cX8_operandAt 0 = .ok (.iload_n 1, 1) := by decide +kernel
theorem dX8_operandAt_1 : decode cX8_operandAt 1 = .ok (.ifCond .lt 21, 3) := by decide +kernel
theorem dX8_operandAt_4 : decode cX8_operandAt 4 = .ok (.iload_n 1, 1) := by decide +kernel
theorem dX8_operandAt_5 : decode cX8_operandAt 5 = .ok (.aload_n 0, 1) := by decide +kernel
theorem dX8_operandAt_6 : decode cX8_operandAt 6 = .ok (.getfield 15, 3) := by decide +kernel
theorem dX8_operandAt_9 : decode cX8_operandAt 9 = .ok (.arraylength, 1) := by decide +kernel
theorem dX8_operandAt_10 : decode cX8_operandAt 10 = .ok (.if_icmp .ge 12, 3) := by decide +kernel
theorem dX8_operandAt_13 : decode cX8_operandAt 13 = .ok (.iload_n 1, 1) := by decide +kernel
theorem dX8_operandAt_14 : decode cX8_operandAt 14 = .ok (.aload_n 0, 1) := by decide +kernel
theorem dX8_operandAt_15 : decode cX8_operandAt 15 = .ok (.getfield 9, 3) := by decide +kernel
theorem dX8_operandAt_18 : decode cX8_operandAt 18 = .ok (.arraylength, 1) := by decide +kernel
theorem dX8_operandAt_19 : decode cX8_operandAt 19 = .ok (.if_icmp .lt 5, 3) := by decide +kernel
theorem dX8_operandAt_22 : decode cX8_operandAt 22 = .ok (.iconst 0, 1) := by decide +kernel
theorem dX8_operandAt_23 : decode cX8_operandAt 23 = .ok (.ireturn, 1) := by decide +kernel
theorem dX8_operandAt_24 : decode cX8_operandAt 24 = .ok (.aload_n 0, 1) := by decide +kernel
theorem dX8_operandAt_25 : decode cX8_operandAt 25 = .ok (.getfield 15, 3) := by decide +kernel
theorem dX8_operandAt_28 : decode cX8_operandAt 28 = .ok (.iload_n 1, 1) := by decide +kernel
theorem dX8_operandAt_29 : decode cX8_operandAt 29 = .ok (.iaload, 1) := by decide +kernel
theorem dX8_operandAt_30 : decode cX8_operandAt 30 = .ok (.istore_n 2, 1) := by decide +kernel
theorem dX8_operandAt_31 : decode cX8_operandAt 31 = .ok (.aload_n 0, 1) := by decide +kernel
theorem dX8_operandAt_32 : decode cX8_operandAt 32 = .ok (.getfield 9, 3) := by decide +kernel
theorem dX8_operandAt_35 : decode cX8_operandAt 35 = .ok (.iload_n 1, 1) := by decide +kernel
theorem dX8_operandAt_36 : decode cX8_operandAt 36 = .ok (.iaload, 1) := by decide +kernel
theorem dX8_operandAt_37 : decode cX8_operandAt 37 = .ok (.iconst 1, 1) := by decide +kernel
theorem dX8_operandAt_38 : decode cX8_operandAt 38 = .ok (.if_icmp .ne 5, 3) := by decide +kernel
theorem dX8_operandAt_41 : decode cX8_operandAt 41 = .ok (.iload_n 2, 1) := by decide +kernel
theorem dX8_operandAt_42 : decode cX8_operandAt 42 = .ok (.ireturn, 1) := by decide +kernel
theorem dX8_operandAt_43 : decode cX8_operandAt 43 = .ok (.iload_n 2, 1) := by decide +kernel
theorem dX8_operandAt_44 : decode cX8_operandAt 44 = .ok (.ifCond .lt 21, 3) := by decide +kernel
theorem dX8_operandAt_47 : decode cX8_operandAt 47 = .ok (.iload_n 2, 1) := by decide +kernel
theorem dX8_operandAt_48 : decode cX8_operandAt 48 = .ok (.aload_n 0, 1) := by decide +kernel
theorem dX8_operandAt_49 : decode cX8_operandAt 49 = .ok (.getfield 21, 3) := by decide +kernel
theorem dX8_operandAt_52 : decode cX8_operandAt 52 = .ok (.arraylength, 1) := by decide +kernel
theorem dX8_operandAt_53 : decode cX8_operandAt 53 = .ok (.if_icmp .ge 12, 3) := by decide +kernel
theorem dX8_operandAt_56 : decode cX8_operandAt 56 = .ok (.aload_n 0, 1) := by decide +kernel
theorem dX8_operandAt_57 : decode cX8_operandAt 57 = .ok (.getfield 21, 3) := by decide +kernel
theorem dX8_operandAt_60 : decode cX8_operandAt 60 = .ok (.iload_n 2, 1) := by decide +kernel
theorem dX8_operandAt_61 : decode cX8_operandAt 61 = .ok (.iaload, 1) := by decide +kernel
theorem dX8_operandAt_62 : decode cX8_operandAt 62 = .ok (.goto 4, 3) := by decide +kernel
theorem dX8_operandAt_65 : decode cX8_operandAt 65 = .ok (.iconst 0, 1) := by decide +kernel
theorem dX8_operandAt_66 : decode cX8_operandAt 66 = .ok (.ireturn, 1) := by decide +kernel
theorem dX8_joined_0 : decode cX8_joined 0 = .ok (.iload_n 0, 1) := by decide +kernel
theorem dX8_joined_1 : decode cX8_joined 1 = .ok (.lookupswitch 149 #[(10, 75), (20, 89), (40, 103), (41, 114), (50, 125), (51, 129), (60, 133), (61, 137)], 75) := by decide +kernel
theorem dX8_joined_76 : decode cX8_joined 76 = .ok (.iload_n 1, 1) := by decide +kernel
theorem dX8_joined_77 : decode cX8_joined 77 = .ok (.ifCond .ne 7, 3) := by decide +kernel
theorem dX8_joined_80 : decode cX8_joined 80 = .ok (.iload_n 2, 1) := by decide +kernel
theorem dX8_joined_81 : decode cX8_joined 81 = .ok (.ifCond .eq 7, 3) := by decide +kernel
theorem dX8_joined_84 : decode cX8_joined 84 = .ok (.iconst 1, 1) := by decide +kernel
theorem dX8_joined_85 : decode cX8_joined 85 = .ok (.goto 4, 3) := by decide +kernel
theorem dX8_joined_88 : decode cX8_joined 88 = .ok (.iconst 0, 1) := by decide +kernel
theorem dX8_joined_89 : decode cX8_joined 89 = .ok (.ireturn, 1) := by decide +kernel
theorem dX8_joined_90 : decode cX8_joined 90 = .ok (.iload_n 1, 1) := by decide +kernel
theorem dX8_joined_91 : decode cX8_joined 91 = .ok (.ifCond .eq 11, 3) := by decide +kernel
theorem dX8_joined_94 : decode cX8_joined 94 = .ok (.iload_n 2, 1) := by decide +kernel
theorem dX8_joined_95 : decode cX8_joined 95 = .ok (.ifCond .eq 7, 3) := by decide +kernel
theorem dX8_joined_98 : decode cX8_joined 98 = .ok (.iconst 1, 1) := by decide +kernel
theorem dX8_joined_99 : decode cX8_joined 99 = .ok (.goto 4, 3) := by decide +kernel
theorem dX8_joined_102 : decode cX8_joined 102 = .ok (.iconst 0, 1) := by decide +kernel
theorem dX8_joined_103 : decode cX8_joined 103 = .ok (.ireturn, 1) := by decide +kernel
theorem dX8_joined_104 : decode cX8_joined 104 = .ok (.iload_n 1, 1) := by decide +kernel
theorem dX8_joined_105 : decode cX8_joined 105 = .ok (.iload_n 2, 1) := by decide +kernel
theorem dX8_joined_106 : decode cX8_joined 106 = .ok (.if_icmp .ge 7, 3) := by decide +kernel
theorem dX8_joined_109 : decode cX8_joined 109 = .ok (.iconst 1, 1) := by decide +kernel
theorem dX8_joined_110 : decode cX8_joined 110 = .ok (.goto 4, 3) := by decide +kernel
theorem dX8_joined_113 : decode cX8_joined 113 = .ok (.iconst 0, 1) := by decide +kernel
theorem dX8_joined_114 : decode cX8_joined 114 = .ok (.ireturn, 1) := by decide +kernel
theorem dX8_joined_115 : decode cX8_joined 115 = .ok (.iload_n 1, 1) := by decide +kernel
theorem dX8_joined_116 : decode cX8_joined 116 = .ok (.iload_n 2, 1) := by decide +kernel
theorem dX8_joined_117 : decode cX8_joined 117 = .ok (.if_icmp .ne 7, 3) := by decide +kernel
theorem dX8_joined_120 : decode cX8_joined 120 = .ok (.iconst 1, 1) := by decide +kernel
theorem dX8_joined_121 : decode cX8_joined 121 = .ok (.goto 4, 3) := by decide +kernel
theorem dX8_joined_124 : decode cX8_joined 124 = .ok (.iconst 0, 1) := by decide +kernel
theorem dX8_joined_125 : decode cX8_joined 125 = .ok (.ireturn, 1) := by decide +kernel
theorem dX8_joined_126 : decode cX8_joined 126 = .ok (.iload_n 1, 1) := by decide +kernel
theorem dX8_joined_127 : decode cX8_joined 127 = .ok (.iload_n 2, 1) := by decide +kernel
theorem dX8_joined_128 : decode cX8_joined 128 = .ok (.iadd, 1) := by decide +kernel
theorem dX8_joined_129 : decode cX8_joined 129 = .ok (.ireturn, 1) := by decide +kernel
theorem dX8_joined_130 : decode cX8_joined 130 = .ok (.iload_n 1, 1) := by decide +kernel
theorem dX8_joined_131 : decode cX8_joined 131 = .ok (.iload_n 2, 1) := by decide +kernel
theorem dX8_joined_132 : decode cX8_joined 132 = .ok (.isub, 1) := by decide +kernel
theorem dX8_joined_133 : decode cX8_joined 133 = .ok (.ireturn, 1) := by decide +kernel
theorem dX8_joined_134 : decode cX8_joined 134 = .ok (.iload_n 1, 1) := by decide +kernel
theorem dX8_joined_135 : decode cX8_joined 135 = .ok (.iload_n 2, 1) := by decide +kernel
theorem dX8_joined_136 : decode cX8_joined 136 = .ok (.imul, 1) := by decide +kernel
theorem dX8_joined_137 : decode cX8_joined 137 = .ok (.ireturn, 1) := by decide +kernel
theorem dX8_joined_138 : decode cX8_joined 138 = .ok (.iload_n 2, 1) := by decide +kernel
theorem dX8_joined_139 : decode cX8_joined 139 = .ok (.ifCond .ne 7, 3) := by decide +kernel
theorem dX8_joined_142 : decode cX8_joined 142 = .ok (.iconst 0, 1) := by decide +kernel
theorem dX8_joined_143 : decode cX8_joined 143 = .ok (.goto 6, 3) := by decide +kernel
theorem dX8_joined_146 : decode cX8_joined 146 = .ok (.iload_n 1, 1) := by decide +kernel
theorem dX8_joined_147 : decode cX8_joined 147 = .ok (.iload_n 2, 1) := by decide +kernel
theorem dX8_joined_148 : decode cX8_joined 148 = .ok (.idiv, 1) := by decide +kernel
theorem dX8_joined_149 : decode cX8_joined 149 = .ok (.ireturn, 1) := by decide +kernel
theorem dX8_joined_150 : decode cX8_joined 150 = .ok (.iconst 0, 1) := by decide +kernel
theorem dX8_joined_151 : decode cX8_joined 151 = .ok (.ireturn, 1) := by decide +kernel
theorem dX9_init_0 : decode cX9_init 0 = .ok (.aload_n 0, 1) := by decide +kernel
theorem dX9_init_1 : decode cX9_init 1 = .ok (.invokespecial 5, 3) := by decide +kernel
theorem dX9_init_4 : decode cX9_init 4 = .ok (.aload_n 0, 1) := by decide +kernel
theorem dX9_init_5 : decode cX9_init 5 = .ok (.bipush 53, 2) := by decide +kernel
theorem dX9_init_7 : decode cX9_init 7 = .ok (.newarray .int, 2) := by decide +kernel
theorem dX9_init_9 : decode cX9_init 9 = .ok (.putfield 11, 3) := by decide +kernel
theorem dX9_init_12 : decode cX9_init 12 = .ok (.return_, 1) := by decide +kernel
theorem dX9_clear_0 : decode cX9_clear 0 = .ok (.iconst 0, 1) := by decide +kernel
theorem dX9_clear_1 : decode cX9_clear 1 = .ok (.istore_n 1, 1) := by decide +kernel
theorem dX9_clear_2 : decode cX9_clear 2 = .ok (.iload_n 1, 1) := by decide +kernel
theorem dX9_clear_3 : decode cX9_clear 3 = .ok (.aload_n 0, 1) := by decide +kernel
theorem dX9_clear_4 : decode cX9_clear 4 = .ok (.getfield 11, 3) := by decide +kernel
theorem dX9_clear_7 : decode cX9_clear 7 = .ok (.arraylength, 1) := by decide +kernel
theorem dX9_clear_8 : decode cX9_clear 8 = .ok (.if_icmp .ge 16, 3) := by decide +kernel
theorem dX9_clear_11 : decode cX9_clear 11 = .ok (.aload_n 0, 1) := by decide +kernel
theorem dX9_clear_12 : decode cX9_clear 12 = .ok (.getfield 11, 3) := by decide +kernel
theorem dX9_clear_15 : decode cX9_clear 15 = .ok (.iload_n 1, 1) := by decide +kernel
theorem dX9_clear_16 : decode cX9_clear 16 = .ok (.iconst 0, 1) := by decide +kernel
theorem dX9_clear_17 : decode cX9_clear 17 = .ok (.iastore, 1) := by decide +kernel
theorem dX9_clear_18 : decode cX9_clear 18 = .ok (.iinc 1 1, 3) := by decide +kernel
theorem dX9_clear_21 : decode cX9_clear 21 = .ok (.goto (-19), 3) := by decide +kernel
theorem dX9_clear_24 : decode cX9_clear 24 = .ok (.return_, 1) := by decide +kernel
theorem dX9_copyFrom_0 : decode cX9_copyFrom 0 = .ok (.aload_n 1, 1) := by decide +kernel
theorem dX9_copyFrom_1 : decode cX9_copyFrom 1 = .ok (.getfield 11, 3) := by decide +kernel
theorem dX9_copyFrom_4 : decode cX9_copyFrom 4 = .ok (.iconst 0, 1) := by decide +kernel
theorem dX9_copyFrom_5 : decode cX9_copyFrom 5 = .ok (.aload_n 0, 1) := by decide +kernel
theorem dX9_copyFrom_6 : decode cX9_copyFrom 6 = .ok (.getfield 11, 3) := by decide +kernel
theorem dX9_copyFrom_9 : decode cX9_copyFrom 9 = .ok (.iconst 0, 1) := by decide +kernel
theorem dX9_copyFrom_10 : decode cX9_copyFrom 10 = .ok (.bipush 53, 2) := by decide +kernel
theorem dX9_copyFrom_12 : decode cX9_copyFrom 12 = .ok (.invokestatic 15, 3) := by decide +kernel
theorem dX9_copyFrom_15 : decode cX9_copyFrom 15 = .ok (.return_, 1) := by decide +kernel
theorem dX9_saveTo_0 : decode cX9_saveTo 0 = .ok (.iload_n 2, 1) := by decide +kernel
theorem dX9_saveTo_1 : decode cX9_saveTo 1 = .ok (.ifCond .lt 24, 3) := by decide +kernel
theorem dX9_saveTo_4 : decode cX9_saveTo 4 = .ok (.iload_n 2, 1) := by decide +kernel
theorem dX9_saveTo_5 : decode cX9_saveTo 5 = .ok (.aload_n 1, 1) := by decide +kernel
theorem dX9_saveTo_6 : decode cX9_saveTo 6 = .ok (.arraylength, 1) := by decide +kernel
theorem dX9_saveTo_7 : decode cX9_saveTo 7 = .ok (.bipush 53, 2) := by decide +kernel
theorem dX9_saveTo_9 : decode cX9_saveTo 9 = .ok (.isub, 1) := by decide +kernel
theorem dX9_saveTo_10 : decode cX9_saveTo 10 = .ok (.if_icmp .gt 15, 3) := by decide +kernel
theorem dX9_saveTo_13 : decode cX9_saveTo 13 = .ok (.aload_n 0, 1) := by decide +kernel
theorem dX9_saveTo_14 : decode cX9_saveTo 14 = .ok (.getfield 11, 3) := by decide +kernel
theorem dX9_saveTo_17 : decode cX9_saveTo 17 = .ok (.iconst 0, 1) := by decide +kernel
theorem dX9_saveTo_18 : decode cX9_saveTo 18 = .ok (.aload_n 1, 1) := by decide +kernel
theorem dX9_saveTo_19 : decode cX9_saveTo 19 = .ok (.iload_n 2, 1) := by decide +kernel
theorem dX9_saveTo_20 : decode cX9_saveTo 20 = .ok (.bipush 53, 2) := by decide +kernel
theorem dX9_saveTo_22 : decode cX9_saveTo 22 = .ok (.invokestatic 15, 3) := by decide +kernel
theorem dX9_saveTo_25 : decode cX9_saveTo 25 = .ok (.return_, 1) := by decide +kernel
theorem dX9_loadFrom_0 : decode cX9_loadFrom 0 = .ok (.iload_n 2, 1) := by decide +kernel
theorem dX9_loadFrom_1 : decode cX9_loadFrom 1 = .ok (.ifCond .lt 24, 3) := by decide +kernel
theorem dX9_loadFrom_4 : decode cX9_loadFrom 4 = .ok (.iload_n 2, 1) := by decide +kernel
theorem dX9_loadFrom_5 : decode cX9_loadFrom 5 = .ok (.aload_n 1, 1) := by decide +kernel
theorem dX9_loadFrom_6 : decode cX9_loadFrom 6 = .ok (.arraylength, 1) := by decide +kernel
theorem dX9_loadFrom_7 : decode cX9_loadFrom 7 = .ok (.bipush 53, 2) := by decide +kernel
theorem dX9_loadFrom_9 : decode cX9_loadFrom 9 = .ok (.isub, 1) := by decide +kernel
theorem dX9_loadFrom_10 : decode cX9_loadFrom 10 = .ok (.if_icmp .gt 15, 3) := by decide +kernel
theorem dX9_loadFrom_13 : decode cX9_loadFrom 13 = .ok (.aload_n 1, 1) := by decide +kernel
theorem dX9_loadFrom_14 : decode cX9_loadFrom 14 = .ok (.iload_n 2, 1) := by decide +kernel
theorem dX9_loadFrom_15 : decode cX9_loadFrom 15 = .ok (.aload_n 0, 1) := by decide +kernel
theorem dX9_loadFrom_16 : decode cX9_loadFrom 16 = .ok (.getfield 11, 3) := by decide +kernel
theorem dX9_loadFrom_19 : decode cX9_loadFrom 19 = .ok (.iconst 0, 1) := by decide +kernel
theorem dX9_loadFrom_20 : decode cX9_loadFrom 20 = .ok (.bipush 53, 2) := by decide +kernel
theorem dX9_loadFrom_22 : decode cX9_loadFrom 22 = .ok (.invokestatic 15, 3) := by decide +kernel
theorem dX9_loadFrom_25 : decode cX9_loadFrom 25 = .ok (.return_, 1) := by decide +kernel
theorem dX9_cell_0 : decode cX9_cell 0 = .ok (.iload_n 1, 1) := by decide +kernel
theorem dX9_cell_1 : decode cX9_cell 1 = .ok (.iload_n 2, 1) := by decide +kernel
theorem dX9_cell_2 : decode cX9_cell 2 = .ok (.iadd, 1) := by decide +kernel
theorem dX9_cell_3 : decode cX9_cell 3 = .ok (.istore_n 3, 1) := by decide +kernel
theorem dX9_cell_4 : decode cX9_cell 4 = .ok (.iload_n 3, 1) := by decide +kernel
theorem dX9_cell_5 : decode cX9_cell 5 = .ok (.ifCond .lt 21, 3) := by decide +kernel
theorem dX9_cell_8 : decode cX9_cell 8 = .ok (.iload_n 3, 1) := by decide +kernel
theorem dX9_cell_9 : decode cX9_cell 9 = .ok (.aload_n 0, 1) := by decide +kernel
theorem dX9_cell_10 : decode cX9_cell 10 = .ok (.getfield 11, 3) := by decide +kernel
theorem dX9_cell_13 : decode cX9_cell 13 = .ok (.arraylength, 1) := by decide +kernel
theorem dX9_cell_14 : decode cX9_cell 14 = .ok (.if_icmp .ge 12, 3) := by decide +kernel
theorem dX9_cell_17 : decode cX9_cell 17 = .ok (.aload_n 0, 1) := by decide +kernel
theorem dX9_cell_18 : decode cX9_cell 18 = .ok (.getfield 11, 3) := by decide +kernel
theorem dX9_cell_21 : decode cX9_cell 21 = .ok (.iload_n 3, 1) := by decide +kernel
theorem dX9_cell_22 : decode cX9_cell 22 = .ok (.iaload, 1) := by decide +kernel
theorem dX9_cell_23 : decode cX9_cell 23 = .ok (.goto 4, 3) := by decide +kernel
theorem dX9_cell_26 : decode cX9_cell 26 = .ok (.iconst 0, 1) := by decide +kernel
theorem dX9_cell_27 : decode cX9_cell 27 = .ok (.ireturn, 1) := by decide +kernel
theorem dX9_setCell_0 : decode cX9_setCell 0 = .ok (.iload_n 1, 1) := by decide +kernel
theorem dX9_setCell_1 : decode cX9_setCell 1 = .ok (.iload_n 2, 1) := by decide +kernel
theorem dX9_setCell_2 : decode cX9_setCell 2 = .ok (.iadd, 1) := by decide +kernel
theorem dX9_setCell_3 : decode cX9_setCell 3 = .ok (.istore 4, 2) := by decide +kernel
theorem dX9_setCell_5 : decode cX9_setCell 5 = .ok (.iload 4, 2) := by decide +kernel
theorem dX9_setCell_7 : decode cX9_setCell 7 = .ok (.ifCond .lt 21, 3) := by decide +kernel
theorem dX9_setCell_10 : decode cX9_setCell 10 = .ok (.iload 4, 2) := by decide +kernel
theorem dX9_setCell_12 : decode cX9_setCell 12 = .ok (.aload_n 0, 1) := by decide +kernel
theorem dX9_setCell_13 : decode cX9_setCell 13 = .ok (.getfield 11, 3) := by decide +kernel
theorem dX9_setCell_16 : decode cX9_setCell 16 = .ok (.arraylength, 1) := by decide +kernel
theorem dX9_setCell_17 : decode cX9_setCell 17 = .ok (.if_icmp .ge 11, 3) := by decide +kernel
theorem dX9_setCell_20 : decode cX9_setCell 20 = .ok (.aload_n 0, 1) := by decide +kernel
theorem dX9_setCell_21 : decode cX9_setCell 21 = .ok (.getfield 11, 3) := by decide +kernel
theorem dX9_setCell_24 : decode cX9_setCell 24 = .ok (.iload 4, 2) := by decide +kernel
theorem dX9_setCell_26 : decode cX9_setCell 26 = .ok (.iload_n 3, 1) := by decide +kernel
theorem dX9_setCell_27 : decode cX9_setCell 27 = .ok (.iastore, 1) := by decide +kernel
theorem dX9_setCell_28 : decode cX9_setCell 28 = .ok (.return_, 1) := by decide +kernel
theorem dX9_day_0 : decode cX9_day 0 = .ok (.aload_n 0, 1) := by decide +kernel
theorem dX9_day_1 : decode cX9_day 1 = .ok (.iconst 0, 1) := by decide +kernel
theorem dX9_day_2 : decode cX9_day 2 = .ok (.iconst 0, 1) := by decide +kernel
theorem dX9_day_3 : decode cX9_day 3 = .ok (.invokevirtual 21, 3) := by decide +kernel
theorem dX9_day_6 : decode cX9_day 6 = .ok (.ireturn, 1) := by decide +kernel
theorem dX9_sizeOf_0 : decode cX9_sizeOf 0 = .ok (.aload_n 0, 1) := by decide +kernel
theorem dX9_sizeOf_1 : decode cX9_sizeOf 1 = .ok (.iconst 1, 1) := by decide +kernel
theorem dX9_sizeOf_2 : decode cX9_sizeOf 2 = .ok (.iload_n 1, 1) := by decide +kernel
theorem dX9_sizeOf_3 : decode cX9_sizeOf 3 = .ok (.invokevirtual 21, 3) := by decide +kernel
theorem dX9_sizeOf_6 : decode cX9_sizeOf 6 = .ok (.ireturn, 1) := by decide +kernel
theorem dX9_hollowOf_0 : decode cX9_hollowOf 0 = .ok (.aload_n 0, 1) := by decide +kernel
theorem dX9_hollowOf_1 : decode cX9_hollowOf 1 = .ok (.bipush 11, 2) := by decide +kernel
theorem dX9_hollowOf_3 : decode cX9_hollowOf 3 = .ok (.iload_n 1, 1) := by decide +kernel
theorem dX9_hollowOf_4 : decode cX9_hollowOf 4 = .ok (.invokevirtual 21, 3) := by decide +kernel
theorem dX9_hollowOf_7 : decode cX9_hollowOf 7 = .ok (.ireturn, 1) := by decide +kernel
theorem dX9_softnessOf_0 : decode cX9_softnessOf 0 = .ok (.aload_n 0, 1) := by decide +kernel
theorem dX9_softnessOf_1 : decode cX9_softnessOf 1 = .ok (.bipush 21, 2) := by decide +kernel
theorem dX9_softnessOf_3 : decode cX9_softnessOf 3 = .ok (.iload_n 1, 1) := by decide +kernel
theorem dX9_softnessOf_4 : decode cX9_softnessOf 4 = .ok (.invokevirtual 21, 3) := by decide +kernel
theorem dX9_softnessOf_7 : decode cX9_softnessOf 7 = .ok (.ireturn, 1) := by decide +kernel
theorem dX9_placeOf_0 : decode cX9_placeOf 0 = .ok (.aload_n 0, 1) := by decide +kernel
theorem dX9_placeOf_1 : decode cX9_placeOf 1 = .ok (.bipush 31, 2) := by decide +kernel
theorem dX9_placeOf_3 : decode cX9_placeOf 3 = .ok (.iload_n 1, 1) := by decide +kernel
theorem dX9_placeOf_4 : decode cX9_placeOf 4 = .ok (.invokevirtual 21, 3) := by decide +kernel
theorem dX9_placeOf_7 : decode cX9_placeOf 7 = .ok (.ireturn, 1) := by decide +kernel
theorem dX9_changeAt_0 : decode cX9_changeAt 0 = .ok (.aload_n 0, 1) := by decide +kernel
theorem dX9_changeAt_1 : decode cX9_changeAt 1 = .ok (.bipush 41, 2) := by decide +kernel
theorem dX9_changeAt_3 : decode cX9_changeAt 3 = .ok (.iload_n 1, 1) := by decide +kernel
theorem dX9_changeAt_4 : decode cX9_changeAt 4 = .ok (.invokevirtual 21, 3) := by decide +kernel
theorem dX9_changeAt_7 : decode cX9_changeAt 7 = .ok (.ireturn, 1) := by decide +kernel
theorem dX9_setRoot_0 : decode cX9_setRoot 0 = .ok (.aload_n 0, 1) := by decide +kernel
theorem dX9_setRoot_1 : decode cX9_setRoot 1 = .ok (.iconst 1, 1) := by decide +kernel
theorem dX9_setRoot_2 : decode cX9_setRoot 2 = .ok (.iload_n 1, 1) := by decide +kernel
theorem dX9_setRoot_3 : decode cX9_setRoot 3 = .ok (.iload_n 2, 1) := by decide +kernel
theorem dX9_setRoot_4 : decode cX9_setRoot 4 = .ok (.invokevirtual 25, 3) := by decide +kernel
theorem dX9_setRoot_7 : decode cX9_setRoot 7 = .ok (.aload_n 0, 1) := by decide +kernel
theorem dX9_setRoot_8 : decode cX9_setRoot 8 = .ok (.bipush 11, 2) := by decide +kernel
theorem dX9_setRoot_10 : decode cX9_setRoot 10 = .ok (.iload_n 1, 1) := by decide +kernel
theorem dX9_setRoot_11 : decode cX9_setRoot 11 = .ok (.iload_n 3, 1) := by decide +kernel
theorem dX9_setRoot_12 : decode cX9_setRoot 12 = .ok (.invokevirtual 25, 3) := by decide +kernel
theorem dX9_setRoot_15 : decode cX9_setRoot 15 = .ok (.aload_n 0, 1) := by decide +kernel
theorem dX9_setRoot_16 : decode cX9_setRoot 16 = .ok (.bipush 21, 2) := by decide +kernel
theorem dX9_setRoot_18 : decode cX9_setRoot 18 = .ok (.iload_n 1, 1) := by decide +kernel
theorem dX9_setRoot_19 : decode cX9_setRoot 19 = .ok (.iconst 0, 1) := by decide +kernel
theorem dX9_setRoot_20 : decode cX9_setRoot 20 = .ok (.invokevirtual 25, 3) := by decide +kernel
theorem dX9_setRoot_23 : decode cX9_setRoot 23 = .ok (.aload_n 0, 1) := by decide +kernel
theorem dX9_setRoot_24 : decode cX9_setRoot 24 = .ok (.bipush 31, 2) := by decide +kernel
theorem dX9_setRoot_26 : decode cX9_setRoot 26 = .ok (.iload_n 1, 1) := by decide +kernel
theorem dX9_setRoot_27 : decode cX9_setRoot 27 = .ok (.iload 4, 2) := by decide +kernel
theorem dX9_setRoot_29 : decode cX9_setRoot 29 = .ok (.invokevirtual 25, 3) := by decide +kernel
theorem dX9_setRoot_32 : decode cX9_setRoot 32 = .ok (.return_, 1) := by decide +kernel
theorem dX9_setHollow_0 : decode cX9_setHollow 0 = .ok (.aload_n 0, 1) := by decide +kernel
theorem dX9_setHollow_1 : decode cX9_setHollow 1 = .ok (.bipush 11, 2) := by decide +kernel
theorem dX9_setHollow_3 : decode cX9_setHollow 3 = .ok (.iload_n 1, 1) := by decide +kernel
theorem dX9_setHollow_4 : decode cX9_setHollow 4 = .ok (.iload_n 2, 1) := by decide +kernel
theorem dX9_setHollow_5 : decode cX9_setHollow 5 = .ok (.invokevirtual 25, 3) := by decide +kernel
theorem dX9_setHollow_8 : decode cX9_setHollow 8 = .ok (.return_, 1) := by decide +kernel
theorem dX9_setPlace_0 : decode cX9_setPlace 0 = .ok (.aload_n 0, 1) := by decide +kernel
theorem dX9_setPlace_1 : decode cX9_setPlace 1 = .ok (.bipush 31, 2) := by decide +kernel
theorem dX9_setPlace_3 : decode cX9_setPlace 3 = .ok (.iload_n 1, 1) := by decide +kernel
theorem dX9_setPlace_4 : decode cX9_setPlace 4 = .ok (.iload_n 2, 1) := by decide +kernel
theorem dX9_setPlace_5 : decode cX9_setPlace 5 = .ok (.invokevirtual 25, 3) := by decide +kernel
theorem dX9_setPlace_8 : decode cX9_setPlace 8 = .ok (.return_, 1) := by decide +kernel
theorem dX9_setChange_0 : decode cX9_setChange 0 = .ok (.aload_n 0, 1) := by decide +kernel
theorem dX9_setChange_1 : decode cX9_setChange 1 = .ok (.bipush 41, 2) := by decide +kernel
theorem dX9_setChange_3 : decode cX9_setChange 3 = .ok (.iload_n 1, 1) := by decide +kernel
theorem dX9_setChange_4 : decode cX9_setChange 4 = .ok (.iload_n 2, 1) := by decide +kernel
theorem dX9_setChange_5 : decode cX9_setChange 5 = .ok (.invokevirtual 25, 3) := by decide +kernel
theorem dX9_setChange_8 : decode cX9_setChange 8 = .ok (.return_, 1) := by decide +kernel
theorem dX9_rootOn_0 : decode cX9_rootOn 0 = .ok (.iconst 0, 1) := by decide +kernel
theorem dX9_rootOn_1 : decode cX9_rootOn 1 = .ok (.istore_n 3, 1) := by decide +kernel
theorem dX9_rootOn_2 : decode cX9_rootOn 2 = .ok (.iload_n 3, 1) := by decide +kernel
theorem dX9_rootOn_3 : decode cX9_rootOn 3 = .ok (.iload_n 2, 1) := by decide +kernel
theorem dX9_rootOn_4 : decode cX9_rootOn 4 = .ok (.if_icmp .ge 20, 3) := by decide +kernel
theorem dX9_rootOn_7 : decode cX9_rootOn 7 = .ok (.aload_n 0, 1) := by decide +kernel
theorem dX9_rootOn_8 : decode cX9_rootOn 8 = .ok (.iload_n 3, 1) := by decide +kernel
theorem dX9_rootOn_9 : decode cX9_rootOn 9 = .ok (.invokevirtual 29, 3) := by decide +kernel
theorem dX9_rootOn_12 : decode cX9_rootOn 12 = .ok (.iload_n 1, 1) := by decide +kernel
theorem dX9_rootOn_13 : decode cX9_rootOn 13 = .ok (.if_icmp .ne 5, 3) := by decide +kernel
theorem dX9_rootOn_16 : decode cX9_rootOn 16 = .ok (.iload_n 3, 1) := by decide +kernel
theorem dX9_rootOn_17 : decode cX9_rootOn 17 = .ok (.ireturn, 1) := by decide +kernel
theorem dX9_rootOn_18 : decode cX9_rootOn 18 = .ok (.iinc 3 1, 3) := by decide +kernel
theorem dX9_rootOn_21 : decode cX9_rootOn 21 = .ok (.goto (-19), 3) := by decide +kernel
theorem dX9_rootOn_24 : decode cX9_rootOn 24 = .ok (.iconst (-1), 1) := by decide +kernel
theorem dX9_rootOn_25 : decode cX9_rootOn 25 = .ok (.ireturn, 1) := by decide +kernel
theorem dX9_roomToHollow_0 : decode cX9_roomToHollow 0 = .ok (.aload_n 0, 1) := by decide +kernel
theorem dX9_roomToHollow_1 : decode cX9_roomToHollow 1 = .ok (.iload_n 1, 1) := by decide +kernel
theorem dX9_roomToHollow_2 : decode cX9_roomToHollow 2 = .ok (.invokevirtual 29, 3) := by decide +kernel
theorem dX9_roomToHollow_5 : decode cX9_roomToHollow 5 = .ok (.bipush (-2), 2) := by decide +kernel
theorem dX9_roomToHollow_7 : decode cX9_roomToHollow 7 = .ok (.if_icmp .ne 5, 3) := by decide +kernel
theorem dX9_roomToHollow_10 : decode cX9_roomToHollow 10 = .ok (.iconst 0, 1) := by decide +kernel
theorem dX9_roomToHollow_11 : decode cX9_roomToHollow 11 = .ok (.ireturn, 1) := by decide +kernel
theorem dX9_roomToHollow_12 : decode cX9_roomToHollow 12 = .ok (.aload_n 0, 1) := by decide +kernel
theorem dX9_roomToHollow_13 : decode cX9_roomToHollow 13 = .ok (.iload_n 1, 1) := by decide +kernel
theorem dX9_roomToHollow_14 : decode cX9_roomToHollow 14 = .ok (.invokevirtual 33, 3) := by decide +kernel
theorem dX9_roomToHollow_17 : decode cX9_roomToHollow 17 = .ok (.istore_n 2, 1) := by decide +kernel
theorem dX9_roomToHollow_18 : decode cX9_roomToHollow 18 = .ok (.bipush 20, 2) := by decide +kernel
theorem dX9_roomToHollow_20 : decode cX9_roomToHollow 20 = .ok (.iload_n 2, 1) := by decide +kernel
theorem dX9_roomToHollow_21 : decode cX9_roomToHollow 21 = .ok (.isub, 1) := by decide +kernel
theorem dX9_roomToHollow_22 : decode cX9_roomToHollow 22 = .ok (.aload_n 0, 1) := by decide +kernel
theorem dX9_roomToHollow_23 : decode cX9_roomToHollow 23 = .ok (.iload_n 1, 1) := by decide +kernel
theorem dX9_roomToHollow_24 : decode cX9_roomToHollow 24 = .ok (.invokevirtual 36, 3) := by decide +kernel
theorem dX9_roomToHollow_27 : decode cX9_roomToHollow 27 = .ok (.iconst 1, 1) := by decide +kernel
theorem dX9_roomToHollow_28 : decode cX9_roomToHollow 28 = .ok (.isub, 1) := by decide +kernel
theorem dX9_roomToHollow_29 : decode cX9_roomToHollow 29 = .ok (.iload_n 2, 1) := by decide +kernel
theorem dX9_roomToHollow_30 : decode cX9_roomToHollow 30 = .ok (.isub, 1) := by decide +kernel
theorem dX9_roomToHollow_31 : decode cX9_roomToHollow 31 = .ok (.invokestatic 39, 3) := by decide +kernel
theorem dX9_roomToHollow_34 : decode cX9_roomToHollow 34 = .ok (.ireturn, 1) := by decide +kernel
theorem dX9_noteOf_0 : decode cX9_noteOf 0 = .ok (.aload_n 1, 1) := by decide +kernel
theorem dX9_noteOf_1 : decode cX9_noteOf 1 = .ok (.getfield 44, 3) := by decide +kernel
theorem dX9_noteOf_4 : decode cX9_noteOf 4 = .ok (.astore 4, 2) := by decide +kernel
theorem dX9_noteOf_6 : decode cX9_noteOf 6 = .ok (.aload 4, 2) := by decide +kernel
theorem dX9_noteOf_8 : decode cX9_noteOf 8 = .ok (.invokevirtual 50, 3) := by decide +kernel
theorem dX9_noteOf_11 : decode cX9_noteOf 11 = .ok (.ifCond .eq 69, 3) := by decide +kernel
theorem dX9_noteOf_14 : decode cX9_noteOf 14 = .ok (.aload_n 1, 1) := by decide +kernel
theorem dX9_noteOf_15 : decode cX9_noteOf 15 = .ok (.aload_n 0, 1) := by decide +kernel
theorem dX9_noteOf_16 : decode cX9_noteOf 16 = .ok (.invokevirtual 56, 3) := by decide +kernel
theorem dX9_noteOf_19 : decode cX9_noteOf 19 = .ok (.invokevirtual 60, 3) := by decide +kernel
theorem dX9_noteOf_22 : decode cX9_noteOf 22 = .ok (.istore 5, 2) := by decide +kernel
theorem dX9_noteOf_24 : decode cX9_noteOf 24 = .ok (.aload 4, 2) := by decide +kernel
theorem dX9_noteOf_26 : decode cX9_noteOf 26 = .ok (.aload_n 0, 1) := by decide +kernel
theorem dX9_noteOf_27 : decode cX9_noteOf 27 = .ok (.iload_n 2, 1) := by decide +kernel
theorem dX9_noteOf_28 : decode cX9_noteOf 28 = .ok (.invokevirtual 36, 3) := by decide +kernel
theorem dX9_noteOf_31 : decode cX9_noteOf 31 = .ok (.aload_n 0, 1) := by decide +kernel
theorem dX9_noteOf_32 : decode cX9_noteOf 32 = .ok (.iload_n 2, 1) := by decide +kernel
theorem dX9_noteOf_33 : decode cX9_noteOf 33 = .ok (.invokevirtual 33, 3) := by decide +kernel
theorem dX9_noteOf_36 : decode cX9_noteOf 36 = .ok (.iload_n 3, 1) := by decide +kernel
theorem dX9_noteOf_37 : decode cX9_noteOf 37 = .ok (.iadd, 1) := by decide +kernel
theorem dX9_noteOf_38 : decode cX9_noteOf 38 = .ok (.aload_n 1, 1) := by decide +kernel
theorem dX9_noteOf_39 : decode cX9_noteOf 39 = .ok (.iload_n 2, 1) := by decide +kernel
theorem dX9_noteOf_40 : decode cX9_noteOf 40 = .ok (.invokevirtual 63, 3) := by decide +kernel
theorem dX9_noteOf_43 : decode cX9_noteOf 43 = .ok (.aload_n 0, 1) := by decide +kernel
theorem dX9_noteOf_44 : decode cX9_noteOf 44 = .ok (.iload_n 2, 1) := by decide +kernel
theorem dX9_noteOf_45 : decode cX9_noteOf 45 = .ok (.invokevirtual 66, 3) := by decide +kernel
theorem dX9_noteOf_48 : decode cX9_noteOf 48 = .ok (.iload 5, 2) := by decide +kernel
theorem dX9_noteOf_50 : decode cX9_noteOf 50 = .ok (.aload_n 0, 1) := by decide +kernel
theorem dX9_noteOf_51 : decode cX9_noteOf 51 = .ok (.invokevirtual 56, 3) := by decide +kernel
theorem dX9_noteOf_54 : decode cX9_noteOf 54 = .ok (.aload_n 0, 1) := by decide +kernel
theorem dX9_noteOf_55 : decode cX9_noteOf 55 = .ok (.iload_n 2, 1) := by decide +kernel
theorem dX9_noteOf_56 : decode cX9_noteOf 56 = .ok (.invokevirtual 29, 3) := by decide +kernel
theorem dX9_noteOf_59 : decode cX9_noteOf 59 = .ok (.ifCond .lt 7, 3) := by decide +kernel
theorem dX9_noteOf_62 : decode cX9_noteOf 62 = .ok (.iconst 1, 1) := by decide +kernel
theorem dX9_noteOf_63 : decode cX9_noteOf 63 = .ok (.goto 4, 3) := by decide +kernel
theorem dX9_noteOf_66 : decode cX9_noteOf 66 = .ok (.iconst 0, 1) := by decide +kernel
theorem dX9_noteOf_67 : decode cX9_noteOf 67 = .ok (.invokevirtual 69, 3) := by decide +kernel
theorem dX9_noteOf_70 : decode cX9_noteOf 70 = .ok (.istore 6, 2) := by decide +kernel
theorem dX9_noteOf_72 : decode cX9_noteOf 72 = .ok (.iload 6, 2) := by decide +kernel
theorem dX9_noteOf_74 : decode cX9_noteOf 74 = .ok (.bipush 15, 2) := by decide +kernel
theorem dX9_noteOf_76 : decode cX9_noteOf 76 = .ok (.invokestatic 73, 3) := by decide +kernel
theorem dX9_noteOf_79 : decode cX9_noteOf 79 = .ok (.ireturn, 1) := by decide +kernel
theorem dX9_noteOf_80 : decode cX9_noteOf 80 = .ok (.aload_n 0, 1) := by decide +kernel
theorem dX9_noteOf_81 : decode cX9_noteOf 81 = .ok (.iload_n 2, 1) := by decide +kernel
theorem dX9_noteOf_82 : decode cX9_noteOf 82 = .ok (.invokevirtual 36, 3) := by decide +kernel
theorem dX9_noteOf_85 : decode cX9_noteOf 85 = .ok (.aload_n 0, 1) := by decide +kernel
theorem dX9_noteOf_86 : decode cX9_noteOf 86 = .ok (.iload_n 2, 1) := by decide +kernel
theorem dX9_noteOf_87 : decode cX9_noteOf 87 = .ok (.invokevirtual 33, 3) := by decide +kernel
theorem dX9_noteOf_90 : decode cX9_noteOf 90 = .ok (.isub, 1) := by decide +kernel
theorem dX9_noteOf_91 : decode cX9_noteOf 91 = .ok (.iload_n 3, 1) := by decide +kernel
theorem dX9_noteOf_92 : decode cX9_noteOf 92 = .ok (.isub, 1) := by decide +kernel
theorem dX9_noteOf_93 : decode cX9_noteOf 93 = .ok (.istore 5, 2) := by decide +kernel
theorem dX9_noteOf_95 : decode cX9_noteOf 95 = .ok (.iconst 0, 1) := by decide +kernel
theorem dX9_noteOf_96 : decode cX9_noteOf 96 = .ok (.bipush 15, 2) := by decide +kernel
theorem dX9_noteOf_98 : decode cX9_noteOf 98 = .ok (.iload 5, 2) := by decide +kernel
theorem dX9_noteOf_100 : decode cX9_noteOf 100 = .ok (.iconst 2, 1) := by decide +kernel
theorem dX9_noteOf_101 : decode cX9_noteOf 101 = .ok (.idiv, 1) := by decide +kernel
theorem dX9_noteOf_102 : decode cX9_noteOf 102 = .ok (.isub, 1) := by decide +kernel
theorem dX9_noteOf_103 : decode cX9_noteOf 103 = .ok (.invokestatic 76, 3) := by decide +kernel
theorem dX9_noteOf_106 : decode cX9_noteOf 106 = .ok (.ireturn, 1) := by decide +kernel
theorem dX9_neededFor_0 : decode cX9_neededFor 0 = .ok (.aload_n 0, 1) := by decide +kernel
theorem dX9_neededFor_1 : decode cX9_neededFor 1 = .ok (.iload_n 2, 1) := by decide +kernel
theorem dX9_neededFor_2 : decode cX9_neededFor 2 = .ok (.invokevirtual 29, 3) := by decide +kernel
theorem dX9_neededFor_5 : decode cX9_neededFor 5 = .ok (.bipush (-2), 2) := by decide +kernel
theorem dX9_neededFor_7 : decode cX9_neededFor 7 = .ok (.if_icmp .ne 5, 3) := by decide +kernel
theorem dX9_neededFor_10 : decode cX9_neededFor 10 = .ok (.iconst (-1), 1) := by decide +kernel
theorem dX9_neededFor_11 : decode cX9_neededFor 11 = .ok (.ireturn, 1) := by decide +kernel
theorem dX9_neededFor_12 : decode cX9_neededFor 12 = .ok (.aload_n 0, 1) := by decide +kernel
theorem dX9_neededFor_13 : decode cX9_neededFor 13 = .ok (.iload_n 2, 1) := by decide +kernel
theorem dX9_neededFor_14 : decode cX9_neededFor 14 = .ok (.invokevirtual 79, 3) := by decide +kernel
theorem dX9_neededFor_17 : decode cX9_neededFor 17 = .ok (.istore 4, 2) := by decide +kernel
theorem dX9_neededFor_19 : decode cX9_neededFor 19 = .ok (.iconst 0, 1) := by decide +kernel
theorem dX9_neededFor_20 : decode cX9_neededFor 20 = .ok (.istore 5, 2) := by decide +kernel
theorem dX9_neededFor_22 : decode cX9_neededFor 22 = .ok (.iload 5, 2) := by decide +kernel
theorem dX9_neededFor_24 : decode cX9_neededFor 24 = .ok (.iload 4, 2) := by decide +kernel
theorem dX9_neededFor_26 : decode cX9_neededFor 26 = .ok (.if_icmp .gt 24, 3) := by decide +kernel
theorem dX9_neededFor_29 : decode cX9_neededFor 29 = .ok (.aload_n 0, 1) := by decide +kernel
theorem dX9_neededFor_30 : decode cX9_neededFor 30 = .ok (.aload_n 1, 1) := by decide +kernel
theorem dX9_neededFor_31 : decode cX9_neededFor 31 = .ok (.iload_n 2, 1) := by decide +kernel
theorem dX9_neededFor_32 : decode cX9_neededFor 32 = .ok (.iload 5, 2) := by decide +kernel
theorem dX9_neededFor_34 : decode cX9_neededFor 34 = .ok (.invokevirtual 82, 3) := by decide +kernel
theorem dX9_neededFor_37 : decode cX9_neededFor 37 = .ok (.iload_n 3, 1) := by decide +kernel
theorem dX9_neededFor_38 : decode cX9_neededFor 38 = .ok (.if_icmp .ne 6, 3) := by decide +kernel
theorem dX9_neededFor_41 : decode cX9_neededFor 41 = .ok (.iload 5, 2) := by decide +kernel
theorem dX9_neededFor_43 : decode cX9_neededFor 43 = .ok (.ireturn, 1) := by decide +kernel
theorem dX9_neededFor_44 : decode cX9_neededFor 44 = .ok (.iinc 5 1, 3) := by decide +kernel
theorem dX9_neededFor_47 : decode cX9_neededFor 47 = .ok (.goto (-25), 3) := by decide +kernel
theorem dX9_neededFor_50 : decode cX9_neededFor 50 = .ok (.iconst (-1), 1) := by decide +kernel
theorem dX9_neededFor_51 : decode cX9_neededFor 51 = .ok (.ireturn, 1) := by decide +kernel
theorem dX9_passDay_0 : decode cX9_passDay 0 = .ok (.iconst 0, 1) := by decide +kernel
theorem dX9_passDay_1 : decode cX9_passDay 1 = .ok (.istore_n 3, 1) := by decide +kernel
theorem dX9_passDay_2 : decode cX9_passDay 2 = .ok (.iload_n 3, 1) := by decide +kernel
theorem dX9_passDay_3 : decode cX9_passDay 3 = .ok (.aload_n 1, 1) := by decide +kernel
theorem dX9_passDay_4 : decode cX9_passDay 4 = .ok (.getfield 86, 3) := by decide +kernel
theorem dX9_passDay_7 : decode cX9_passDay 7 = .ok (.if_icmp .ge 68, 3) := by decide +kernel
theorem dX9_passDay_10 : decode cX9_passDay 10 = .ok (.aload_n 0, 1) := by decide +kernel
theorem dX9_passDay_11 : decode cX9_passDay 11 = .ok (.iload_n 3, 1) := by decide +kernel
theorem dX9_passDay_12 : decode cX9_passDay 12 = .ok (.invokevirtual 29, 3) := by decide +kernel
theorem dX9_passDay_15 : decode cX9_passDay 15 = .ok (.istore 4, 2) := by decide +kernel
theorem dX9_passDay_17 : decode cX9_passDay 17 = .ok (.iload 4, 2) := by decide +kernel
theorem dX9_passDay_19 : decode cX9_passDay 19 = .ok (.iconst (-1), 1) := by decide +kernel
theorem dX9_passDay_20 : decode cX9_passDay 20 = .ok (.if_icmp .ne 34, 3) := by decide +kernel
theorem dX9_passDay_23 : decode cX9_passDay 23 = .ok (.aload_n 0, 1) := by decide +kernel
theorem dX9_passDay_24 : decode cX9_passDay 24 = .ok (.iload_n 3, 1) := by decide +kernel
theorem dX9_passDay_25 : decode cX9_passDay 25 = .ok (.invokevirtual 36, 3) := by decide +kernel
theorem dX9_passDay_28 : decode cX9_passDay 28 = .ok (.aload_n 0, 1) := by decide +kernel
theorem dX9_passDay_29 : decode cX9_passDay 29 = .ok (.aload_n 1, 1) := by decide +kernel
theorem dX9_passDay_30 : decode cX9_passDay 30 = .ok (.iload_n 3, 1) := by decide +kernel
theorem dX9_passDay_31 : decode cX9_passDay 31 = .ok (.iload_n 2, 1) := by decide +kernel
theorem dX9_passDay_32 : decode cX9_passDay 32 = .ok (.invokevirtual 90, 3) := by decide +kernel
theorem dX9_passDay_35 : decode cX9_passDay 35 = .ok (.iadd, 1) := by decide +kernel
theorem dX9_passDay_36 : decode cX9_passDay 36 = .ok (.istore 5, 2) := by decide +kernel
theorem dX9_passDay_38 : decode cX9_passDay 38 = .ok (.aload_n 0, 1) := by decide +kernel
theorem dX9_passDay_39 : decode cX9_passDay 39 = .ok (.iconst 1, 1) := by decide +kernel
theorem dX9_passDay_40 : decode cX9_passDay 40 = .ok (.iload_n 3, 1) := by decide +kernel
theorem dX9_passDay_41 : decode cX9_passDay 41 = .ok (.iload 5, 2) := by decide +kernel
theorem dX9_passDay_43 : decode cX9_passDay 43 = .ok (.bipush 60, 2) := by decide +kernel
theorem dX9_passDay_45 : decode cX9_passDay 45 = .ok (.invokestatic 39, 3) := by decide +kernel
theorem dX9_passDay_48 : decode cX9_passDay 48 = .ok (.invokevirtual 25, 3) := by decide +kernel
theorem dX9_passDay_51 : decode cX9_passDay 51 = .ok (.goto 18, 3) := by decide +kernel
theorem dX9_passDay_54 : decode cX9_passDay 54 = .ok (.iload 4, 2) := by decide +kernel
theorem dX9_passDay_56 : decode cX9_passDay 56 = .ok (.ifCond .lt 13, 3) := by decide +kernel
theorem dX9_passDay_59 : decode cX9_passDay 59 = .ok (.aload_n 0, 1) := by decide +kernel
theorem dX9_passDay_60 : decode cX9_passDay 60 = .ok (.iload_n 3, 1) := by decide +kernel
theorem dX9_passDay_61 : decode cX9_passDay 61 = .ok (.iconst 1, 1) := by decide +kernel
theorem dX9_passDay_62 : decode cX9_passDay 62 = .ok (.iload_n 2, 1) := by decide +kernel
theorem dX9_passDay_63 : decode cX9_passDay 63 = .ok (.iconst 2, 1) := by decide +kernel
theorem dX9_passDay_64 : decode cX9_passDay 64 = .ok (.idiv, 1) := by decide +kernel
theorem dX9_passDay_65 : decode cX9_passDay 65 = .ok (.iadd, 1) := by decide +kernel
theorem dX9_passDay_66 : decode cX9_passDay 66 = .ok (.invokevirtual 93, 3) := by decide +kernel
theorem dX9_passDay_69 : decode cX9_passDay 69 = .ok (.iinc 3 1, 3) := by decide +kernel
theorem dX9_passDay_72 : decode cX9_passDay 72 = .ok (.goto (-70), 3) := by decide +kernel
theorem dX9_passDay_75 : decode cX9_passDay 75 = .ok (.aload_n 0, 1) := by decide +kernel
theorem dX9_passDay_76 : decode cX9_passDay 76 = .ok (.iconst 0, 1) := by decide +kernel
theorem dX9_passDay_77 : decode cX9_passDay 77 = .ok (.iconst 0, 1) := by decide +kernel
theorem dX9_passDay_78 : decode cX9_passDay 78 = .ok (.aload_n 0, 1) := by decide +kernel
theorem dX9_passDay_79 : decode cX9_passDay 79 = .ok (.invokevirtual 56, 3) := by decide +kernel
theorem dX9_passDay_82 : decode cX9_passDay 82 = .ok (.iconst 1, 1) := by decide +kernel
theorem dX9_passDay_83 : decode cX9_passDay 83 = .ok (.iadd, 1) := by decide +kernel
theorem dX9_passDay_84 : decode cX9_passDay 84 = .ok (.invokevirtual 25, 3) := by decide +kernel
theorem dX9_passDay_87 : decode cX9_passDay 87 = .ok (.return_, 1) := by decide +kernel
theorem dX9_soften_0 : decode cX9_soften 0 = .ok (.aload_n 0, 1) := by decide +kernel
theorem dX9_soften_1 : decode cX9_soften 1 = .ok (.bipush 21, 2) := by decide +kernel
theorem dX9_soften_3 : decode cX9_soften 3 = .ok (.iload_n 1, 1) := by decide +kernel
theorem dX9_soften_4 : decode cX9_soften 4 = .ok (.aload_n 0, 1) := by decide +kernel
theorem dX9_soften_5 : decode cX9_soften 5 = .ok (.iload_n 1, 1) := by decide +kernel
theorem dX9_soften_6 : decode cX9_soften 6 = .ok (.invokevirtual 66, 3) := by decide +kernel
theorem dX9_soften_9 : decode cX9_soften 9 = .ok (.iload_n 2, 1) := by decide +kernel
theorem dX9_soften_10 : decode cX9_soften 10 = .ok (.iadd, 1) := by decide +kernel
theorem dX9_soften_11 : decode cX9_soften 11 = .ok (.bipush 99, 2) := by decide +kernel
theorem dX9_soften_13 : decode cX9_soften 13 = .ok (.invokestatic 39, 3) := by decide +kernel
theorem dX9_soften_16 : decode cX9_soften 16 = .ok (.invokevirtual 25, 3) := by decide +kernel
theorem dX9_soften_19 : decode cX9_soften 19 = .ok (.return_, 1) := by decide +kernel
theorem dX9_growthOf_0 : decode cX9_growthOf 0 = .ok (.aload_n 1, 1) := by decide +kernel
theorem dX9_growthOf_1 : decode cX9_growthOf 1 = .ok (.getfield 97, 3) := by decide +kernel
theorem dX9_growthOf_4 : decode cX9_growthOf 4 = .ok (.astore 4, 2) := by decide +kernel
theorem dX9_growthOf_6 : decode cX9_growthOf 6 = .ok (.aload 4, 2) := by decide +kernel
theorem dX9_growthOf_8 : decode cX9_growthOf 8 = .ok (.invokevirtual 50, 3) := by decide +kernel
theorem dX9_growthOf_11 : decode cX9_growthOf 11 = .ok (.ifCond .eq 56, 3) := by decide +kernel
theorem dX9_growthOf_14 : decode cX9_growthOf 14 = .ok (.aload 4, 2) := by decide +kernel
theorem dX9_growthOf_16 : decode cX9_growthOf 16 = .ok (.aload_n 0, 1) := by decide +kernel
theorem dX9_growthOf_17 : decode cX9_growthOf 17 = .ok (.iload_n 2, 1) := by decide +kernel
theorem dX9_growthOf_18 : decode cX9_growthOf 18 = .ok (.invokevirtual 36, 3) := by decide +kernel
theorem dX9_growthOf_21 : decode cX9_growthOf 21 = .ok (.aload_n 0, 1) := by decide +kernel
theorem dX9_growthOf_22 : decode cX9_growthOf 22 = .ok (.iload_n 2, 1) := by decide +kernel
theorem dX9_growthOf_23 : decode cX9_growthOf 23 = .ok (.invokevirtual 33, 3) := by decide +kernel
theorem dX9_growthOf_26 : decode cX9_growthOf 26 = .ok (.aload_n 1, 1) := by decide +kernel
theorem dX9_growthOf_27 : decode cX9_growthOf 27 = .ok (.iload_n 2, 1) := by decide +kernel
theorem dX9_growthOf_28 : decode cX9_growthOf 28 = .ok (.invokevirtual 63, 3) := by decide +kernel
theorem dX9_growthOf_31 : decode cX9_growthOf 31 = .ok (.aload_n 0, 1) := by decide +kernel
theorem dX9_growthOf_32 : decode cX9_growthOf 32 = .ok (.iload_n 2, 1) := by decide +kernel
theorem dX9_growthOf_33 : decode cX9_growthOf 33 = .ok (.invokevirtual 66, 3) := by decide +kernel
theorem dX9_growthOf_36 : decode cX9_growthOf 36 = .ok (.iload_n 3, 1) := by decide +kernel
theorem dX9_growthOf_37 : decode cX9_growthOf 37 = .ok (.aload_n 0, 1) := by decide +kernel
theorem dX9_growthOf_38 : decode cX9_growthOf 38 = .ok (.invokevirtual 56, 3) := by decide +kernel
theorem dX9_growthOf_41 : decode cX9_growthOf 41 = .ok (.aload_n 0, 1) := by decide +kernel
theorem dX9_growthOf_42 : decode cX9_growthOf 42 = .ok (.iload_n 2, 1) := by decide +kernel
theorem dX9_growthOf_43 : decode cX9_growthOf 43 = .ok (.invokevirtual 29, 3) := by decide +kernel
theorem dX9_growthOf_46 : decode cX9_growthOf 46 = .ok (.ifCond .lt 7, 3) := by decide +kernel
theorem dX9_growthOf_49 : decode cX9_growthOf 49 = .ok (.iconst 1, 1) := by decide +kernel
theorem dX9_growthOf_50 : decode cX9_growthOf 50 = .ok (.goto 4, 3) := by decide +kernel
theorem dX9_growthOf_53 : decode cX9_growthOf 53 = .ok (.iconst 0, 1) := by decide +kernel
theorem dX9_growthOf_54 : decode cX9_growthOf 54 = .ok (.invokevirtual 69, 3) := by decide +kernel
theorem dX9_growthOf_57 : decode cX9_growthOf 57 = .ok (.istore 5, 2) := by decide +kernel
theorem dX9_growthOf_59 : decode cX9_growthOf 59 = .ok (.iload 5, 2) := by decide +kernel
theorem dX9_growthOf_61 : decode cX9_growthOf 61 = .ok (.bipush 9, 2) := by decide +kernel
theorem dX9_growthOf_63 : decode cX9_growthOf 63 = .ok (.invokestatic 73, 3) := by decide +kernel
theorem dX9_growthOf_66 : decode cX9_growthOf 66 = .ok (.ireturn, 1) := by decide +kernel
theorem dX9_growthOf_67 : decode cX9_growthOf 67 = .ok (.iload_n 3, 1) := by decide +kernel
theorem dX9_growthOf_68 : decode cX9_growthOf 68 = .ok (.iconst 5, 1) := by decide +kernel
theorem dX9_growthOf_69 : decode cX9_growthOf 69 = .ok (.if_icmp .ge 7, 3) := by decide +kernel
theorem dX9_growthOf_72 : decode cX9_growthOf 72 = .ok (.iconst 1, 1) := by decide +kernel
theorem dX9_growthOf_73 : decode cX9_growthOf 73 = .ok (.goto 4, 3) := by decide +kernel
theorem dX9_growthOf_76 : decode cX9_growthOf 76 = .ok (.iconst 0, 1) := by decide +kernel
theorem dX9_growthOf_77 : decode cX9_growthOf 77 = .ok (.ireturn, 1) := by decide +kernel
theorem dX10_init_0 : decode cX10_init 0 = .ok (.aload_n 0, 1) := by decide +kernel
theorem dX10_init_1 : decode cX10_init 1 = .ok (.invokespecial 3, 3) := by decide +kernel
theorem dX10_init_4 : decode cX10_init 4 = .ok (.aload_n 0, 1) := by decide +kernel
theorem dX10_init_5 : decode cX10_init 5 = .ok (.new 9, 3) := by decide +kernel
theorem dX10_init_8 : decode cX10_init 8 = .ok (.dup, 1) := by decide +kernel
theorem dX10_init_9 : decode cX10_init 9 = .ok (.invokespecial 11, 3) := by decide +kernel
theorem dX10_init_12 : decode cX10_init 12 = .ok (.putfield 12, 3) := by decide +kernel
theorem dX10_init_15 : decode cX10_init 15 = .ok (.aload_n 0, 1) := by decide +kernel
theorem dX10_init_16 : decode cX10_init 16 = .ok (.iconst 0, 1) := by decide +kernel
theorem dX10_init_17 : decode cX10_init 17 = .ok (.putfield 18, 3) := by decide +kernel
theorem dX10_init_20 : decode cX10_init 20 = .ok (.return_, 1) := by decide +kernel
theorem dX10_begin_0 : decode cX10_begin 0 = .ok (.aload_n 0, 1) := by decide +kernel
theorem dX10_begin_1 : decode cX10_begin 1 = .ok (.getfield 12, 3) := by decide +kernel
theorem dX10_begin_4 : decode cX10_begin 4 = .ok (.aload_n 1, 1) := by decide +kernel
theorem dX10_begin_5 : decode cX10_begin 5 = .ok (.invokevirtual 22, 3) := by decide +kernel
theorem dX10_begin_8 : decode cX10_begin 8 = .ok (.aload_n 0, 1) := by decide +kernel
theorem dX10_begin_9 : decode cX10_begin 9 = .ok (.iload_n 2, 1) := by decide +kernel
theorem dX10_begin_10 : decode cX10_begin 10 = .ok (.putfield 18, 3) := by decide +kernel
theorem dX10_begin_13 : decode cX10_begin 13 = .ok (.return_, 1) := by decide +kernel
theorem dX10_draw_0 : decode cX10_draw 0 = .ok (.aload_n 0, 1) := by decide +kernel
theorem dX10_draw_1 : decode cX10_draw 1 = .ok (.aload_n 0, 1) := by decide +kernel
theorem dX10_draw_2 : decode cX10_draw 2 = .ok (.getfield 18, 3) := by decide +kernel
theorem dX10_draw_5 : decode cX10_draw 5 = .ok (.ldc 26, 2) := by decide +kernel
theorem dX10_draw_7 : decode cX10_draw 7 = .ok (.imul, 1) := by decide +kernel
theorem dX10_draw_8 : decode cX10_draw 8 = .ok (.sipush 12345, 3) := by decide +kernel
theorem dX10_draw_11 : decode cX10_draw 11 = .ok (.iadd, 1) := by decide +kernel
theorem dX10_draw_12 : decode cX10_draw 12 = .ok (.putfield 18, 3) := by decide +kernel
theorem dX10_draw_15 : decode cX10_draw 15 = .ok (.iload_n 1, 1) := by decide +kernel
theorem dX10_draw_16 : decode cX10_draw 16 = .ok (.ifCond .le 19, 3) := by decide +kernel
theorem dX10_draw_19 : decode cX10_draw 19 = .ok (.aload_n 0, 1) := by decide +kernel
theorem dX10_draw_20 : decode cX10_draw 20 = .ok (.getfield 18, 3) := by decide +kernel
theorem dX10_draw_23 : decode cX10_draw 23 = .ok (.bipush 16, 2) := by decide +kernel
theorem dX10_draw_25 : decode cX10_draw 25 = .ok (.iushr, 1) := by decide +kernel
theorem dX10_draw_26 : decode cX10_draw 26 = .ok (.sipush 32767, 3) := by decide +kernel
theorem dX10_draw_29 : decode cX10_draw 29 = .ok (.iand, 1) := by decide +kernel
theorem dX10_draw_30 : decode cX10_draw 30 = .ok (.iload_n 1, 1) := by decide +kernel
theorem dX10_draw_31 : decode cX10_draw 31 = .ok (.irem, 1) := by decide +kernel
theorem dX10_draw_32 : decode cX10_draw 32 = .ok (.goto 4, 3) := by decide +kernel
theorem dX10_draw_35 : decode cX10_draw 35 = .ok (.iconst 0, 1) := by decide +kernel
theorem dX10_draw_36 : decode cX10_draw 36 = .ok (.ireturn, 1) := by decide +kernel
theorem dX10_passDrawnDay_0 : decode cX10_passDrawnDay 0 = .ok (.aload_n 0, 1) := by decide +kernel
theorem dX10_passDrawnDay_1 : decode cX10_passDrawnDay 1 = .ok (.bipush 8, 2) := by decide +kernel
theorem dX10_passDrawnDay_3 : decode cX10_passDrawnDay 3 = .ok (.invokevirtual 27, 3) := by decide +kernel
theorem dX10_passDrawnDay_6 : decode cX10_passDrawnDay 6 = .ok (.istore_n 2, 1) := by decide +kernel
theorem dX10_passDrawnDay_7 : decode cX10_passDrawnDay 7 = .ok (.aload_n 1, 1) := by decide +kernel
theorem dX10_passDrawnDay_8 : decode cX10_passDrawnDay 8 = .ok (.getfield 31, 3) := by decide +kernel
theorem dX10_passDrawnDay_11 : decode cX10_passDrawnDay 11 = .ok (.ifCond .le 70, 3) := by decide +kernel
theorem dX10_passDrawnDay_14 : decode cX10_passDrawnDay 14 = .ok (.iload_n 2, 1) := by decide +kernel
theorem dX10_passDrawnDay_15 : decode cX10_passDrawnDay 15 = .ok (.iconst 1, 1) := by decide +kernel
theorem dX10_passDrawnDay_16 : decode cX10_passDrawnDay 16 = .ok (.if_icmp .gt 65, 3) := by decide +kernel
theorem dX10_passDrawnDay_19 : decode cX10_passDrawnDay 19 = .ok (.aload_n 0, 1) := by decide +kernel
theorem dX10_passDrawnDay_20 : decode cX10_passDrawnDay 20 = .ok (.aload_n 1, 1) := by decide +kernel
theorem dX10_passDrawnDay_21 : decode cX10_passDrawnDay 21 = .ok (.getfield 31, 3) := by decide +kernel
theorem dX10_passDrawnDay_24 : decode cX10_passDrawnDay 24 = .ok (.invokevirtual 27, 3) := by decide +kernel
theorem dX10_passDrawnDay_27 : decode cX10_passDrawnDay 27 = .ok (.istore_n 3, 1) := by decide +kernel
theorem dX10_passDrawnDay_28 : decode cX10_passDrawnDay 28 = .ok (.aload_n 0, 1) := by decide +kernel
theorem dX10_passDrawnDay_29 : decode cX10_passDrawnDay 29 = .ok (.getfield 12, 3) := by decide +kernel
theorem dX10_passDrawnDay_32 : decode cX10_passDrawnDay 32 = .ok (.iload_n 3, 1) := by decide +kernel
theorem dX10_passDrawnDay_33 : decode cX10_passDrawnDay 33 = .ok (.invokevirtual 36, 3) := by decide +kernel
theorem dX10_passDrawnDay_36 : decode cX10_passDrawnDay 36 = .ok (.istore 4, 2) := by decide +kernel
theorem dX10_passDrawnDay_38 : decode cX10_passDrawnDay 38 = .ok (.iload_n 2, 1) := by decide +kernel
theorem dX10_passDrawnDay_39 : decode cX10_passDrawnDay 39 = .ok (.ifCond .ne 22, 3) := by decide +kernel
theorem dX10_passDrawnDay_42 : decode cX10_passDrawnDay 42 = .ok (.iload 4, 2) := by decide +kernel
theorem dX10_passDrawnDay_44 : decode cX10_passDrawnDay 44 = .ok (.iconst (-1), 1) := by decide +kernel
theorem dX10_passDrawnDay_45 : decode cX10_passDrawnDay 45 = .ok (.if_icmp .ne 16, 3) := by decide +kernel
theorem dX10_passDrawnDay_48 : decode cX10_passDrawnDay 48 = .ok (.aload_n 0, 1) := by decide +kernel
theorem dX10_passDrawnDay_49 : decode cX10_passDrawnDay 49 = .ok (.getfield 12, 3) := by decide +kernel
theorem dX10_passDrawnDay_52 : decode cX10_passDrawnDay 52 = .ok (.iload_n 3, 1) := by decide +kernel
theorem dX10_passDrawnDay_53 : decode cX10_passDrawnDay 53 = .ok (.bipush (-2), 2) := by decide +kernel
theorem dX10_passDrawnDay_55 : decode cX10_passDrawnDay 55 = .ok (.invokevirtual 39, 3) := by decide +kernel
theorem dX10_passDrawnDay_58 : decode cX10_passDrawnDay 58 = .ok (.goto 23, 3) := by decide +kernel
theorem dX10_passDrawnDay_61 : decode cX10_passDrawnDay 61 = .ok (.iload_n 2, 1) := by decide +kernel
theorem dX10_passDrawnDay_62 : decode cX10_passDrawnDay 62 = .ok (.iconst 1, 1) := by decide +kernel
theorem dX10_passDrawnDay_63 : decode cX10_passDrawnDay 63 = .ok (.if_icmp .ne 18, 3) := by decide +kernel
theorem dX10_passDrawnDay_66 : decode cX10_passDrawnDay 66 = .ok (.iload 4, 2) := by decide +kernel
theorem dX10_passDrawnDay_68 : decode cX10_passDrawnDay 68 = .ok (.ifCond .lt 13, 3) := by decide +kernel
theorem dX10_passDrawnDay_71 : decode cX10_passDrawnDay 71 = .ok (.aload_n 0, 1) := by decide +kernel
theorem dX10_passDrawnDay_72 : decode cX10_passDrawnDay 72 = .ok (.getfield 12, 3) := by decide +kernel
theorem dX10_passDrawnDay_75 : decode cX10_passDrawnDay 75 = .ok (.iload_n 3, 1) := by decide +kernel
theorem dX10_passDrawnDay_76 : decode cX10_passDrawnDay 76 = .ok (.bipush 9, 2) := by decide +kernel
theorem dX10_passDrawnDay_78 : decode cX10_passDrawnDay 78 = .ok (.invokevirtual 43, 3) := by decide +kernel
theorem dX10_passDrawnDay_81 : decode cX10_passDrawnDay 81 = .ok (.aload_n 0, 1) := by decide +kernel
theorem dX10_passDrawnDay_82 : decode cX10_passDrawnDay 82 = .ok (.getfield 12, 3) := by decide +kernel
theorem dX10_passDrawnDay_85 : decode cX10_passDrawnDay 85 = .ok (.aload_n 1, 1) := by decide +kernel
theorem dX10_passDrawnDay_86 : decode cX10_passDrawnDay 86 = .ok (.aload_n 0, 1) := by decide +kernel
theorem dX10_passDrawnDay_87 : decode cX10_passDrawnDay 87 = .ok (.bipush 10, 2) := by decide +kernel
theorem dX10_passDrawnDay_89 : decode cX10_passDrawnDay 89 = .ok (.invokevirtual 27, 3) := by decide +kernel
theorem dX10_passDrawnDay_92 : decode cX10_passDrawnDay 92 = .ok (.invokevirtual 46, 3) := by decide +kernel
theorem dX10_passDrawnDay_95 : decode cX10_passDrawnDay 95 = .ok (.return_, 1) := by decide +kernel
theorem dX10_sounding_0 : decode cX10_sounding 0 = .ok (.iconst 0, 1) := by decide +kernel
theorem dX10_sounding_1 : decode cX10_sounding 1 = .ok (.istore_n 2, 1) := by decide +kernel
theorem dX10_sounding_2 : decode cX10_sounding 2 = .ok (.iconst 0, 1) := by decide +kernel
theorem dX10_sounding_3 : decode cX10_sounding 3 = .ok (.istore_n 3, 1) := by decide +kernel
theorem dX10_sounding_4 : decode cX10_sounding 4 = .ok (.iload_n 3, 1) := by decide +kernel
theorem dX10_sounding_5 : decode cX10_sounding 5 = .ok (.aload_n 1, 1) := by decide +kernel
theorem dX10_sounding_6 : decode cX10_sounding 6 = .ok (.getfield 31, 3) := by decide +kernel
theorem dX10_sounding_9 : decode cX10_sounding 9 = .ok (.if_icmp .ge 43, 3) := by decide +kernel
theorem dX10_sounding_12 : decode cX10_sounding 12 = .ok (.iload_n 2, 1) := by decide +kernel
theorem dX10_sounding_13 : decode cX10_sounding 13 = .ok (.aload_n 0, 1) := by decide +kernel
theorem dX10_sounding_14 : decode cX10_sounding 14 = .ok (.getfield 12, 3) := by decide +kernel
theorem dX10_sounding_17 : decode cX10_sounding 17 = .ok (.iload_n 3, 1) := by decide +kernel
theorem dX10_sounding_18 : decode cX10_sounding 18 = .ok (.invokevirtual 36, 3) := by decide +kernel
theorem dX10_sounding_21 : decode cX10_sounding 21 = .ok (.ifCond .lt 22, 3) := by decide +kernel
theorem dX10_sounding_24 : decode cX10_sounding 24 = .ok (.aload_n 0, 1) := by decide +kernel
theorem dX10_sounding_25 : decode cX10_sounding 25 = .ok (.getfield 12, 3) := by decide +kernel
theorem dX10_sounding_28 : decode cX10_sounding 28 = .ok (.iload_n 3, 1) := by decide +kernel
theorem dX10_sounding_29 : decode cX10_sounding 29 = .ok (.invokevirtual 50, 3) := by decide +kernel
theorem dX10_sounding_32 : decode cX10_sounding 32 = .ok (.aload_n 1, 1) := by decide +kernel
theorem dX10_sounding_33 : decode cX10_sounding 33 = .ok (.getfield 53, 3) := by decide +kernel
theorem dX10_sounding_36 : decode cX10_sounding 36 = .ok (.if_icmp .ge 7, 3) := by decide +kernel
theorem dX10_sounding_39 : decode cX10_sounding 39 = .ok (.iconst 1, 1) := by decide +kernel
theorem dX10_sounding_40 : decode cX10_sounding 40 = .ok (.goto 4, 3) := by decide +kernel
theorem dX10_sounding_43 : decode cX10_sounding 43 = .ok (.iconst 0, 1) := by decide +kernel
theorem dX10_sounding_44 : decode cX10_sounding 44 = .ok (.iadd, 1) := by decide +kernel
theorem dX10_sounding_45 : decode cX10_sounding 45 = .ok (.istore_n 2, 1) := by decide +kernel
theorem dX10_sounding_46 : decode cX10_sounding 46 = .ok (.iinc 3 1, 3) := by decide +kernel
theorem dX10_sounding_49 : decode cX10_sounding 49 = .ok (.goto (-45), 3) := by decide +kernel
theorem dX10_sounding_52 : decode cX10_sounding 52 = .ok (.iload_n 2, 1) := by decide +kernel
theorem dX10_sounding_53 : decode cX10_sounding 53 = .ok (.ireturn, 1) := by decide +kernel
theorem dX10_gone_0 : decode cX10_gone 0 = .ok (.iconst 0, 1) := by decide +kernel
theorem dX10_gone_1 : decode cX10_gone 1 = .ok (.istore_n 2, 1) := by decide +kernel
theorem dX10_gone_2 : decode cX10_gone 2 = .ok (.iconst 0, 1) := by decide +kernel
theorem dX10_gone_3 : decode cX10_gone 3 = .ok (.istore_n 3, 1) := by decide +kernel
theorem dX10_gone_4 : decode cX10_gone 4 = .ok (.iload_n 3, 1) := by decide +kernel
theorem dX10_gone_5 : decode cX10_gone 5 = .ok (.aload_n 1, 1) := by decide +kernel
theorem dX10_gone_6 : decode cX10_gone 6 = .ok (.getfield 31, 3) := by decide +kernel
theorem dX10_gone_9 : decode cX10_gone 9 = .ok (.if_icmp .ge 30, 3) := by decide +kernel
theorem dX10_gone_12 : decode cX10_gone 12 = .ok (.iload_n 2, 1) := by decide +kernel
theorem dX10_gone_13 : decode cX10_gone 13 = .ok (.aload_n 0, 1) := by decide +kernel
theorem dX10_gone_14 : decode cX10_gone 14 = .ok (.getfield 12, 3) := by decide +kernel
theorem dX10_gone_17 : decode cX10_gone 17 = .ok (.iload_n 3, 1) := by decide +kernel
theorem dX10_gone_18 : decode cX10_gone 18 = .ok (.invokevirtual 36, 3) := by decide +kernel
theorem dX10_gone_21 : decode cX10_gone 21 = .ok (.bipush (-2), 2) := by decide +kernel
theorem dX10_gone_23 : decode cX10_gone 23 = .ok (.if_icmp .ne 7, 3) := by decide +kernel
theorem dX10_gone_26 : decode cX10_gone 26 = .ok (.iconst 1, 1) := by decide +kernel
theorem dX10_gone_27 : decode cX10_gone 27 = .ok (.goto 4, 3) := by decide +kernel
theorem dX10_gone_30 : decode cX10_gone 30 = .ok (.iconst 0, 1) := by decide +kernel
theorem dX10_gone_31 : decode cX10_gone 31 = .ok (.iadd, 1) := by decide +kernel
theorem dX10_gone_32 : decode cX10_gone 32 = .ok (.istore_n 2, 1) := by decide +kernel
theorem dX10_gone_33 : decode cX10_gone 33 = .ok (.iinc 3 1, 3) := by decide +kernel
theorem dX10_gone_36 : decode cX10_gone 36 = .ok (.goto (-32), 3) := by decide +kernel
theorem dX10_gone_39 : decode cX10_gone 39 = .ok (.iload_n 2, 1) := by decide +kernel
theorem dX10_gone_40 : decode cX10_gone 40 = .ok (.ireturn, 1) := by decide +kernel
theorem dX10_sizeInGarden_0 : decode cX10_sizeInGarden 0 = .ok (.iconst 0, 1) := by decide +kernel
theorem dX10_sizeInGarden_1 : decode cX10_sizeInGarden 1 = .ok (.istore_n 2, 1) := by decide +kernel
theorem dX10_sizeInGarden_2 : decode cX10_sizeInGarden 2 = .ok (.iconst 0, 1) := by decide +kernel
theorem dX10_sizeInGarden_3 : decode cX10_sizeInGarden 3 = .ok (.istore_n 3, 1) := by decide +kernel
theorem dX10_sizeInGarden_4 : decode cX10_sizeInGarden 4 = .ok (.iload_n 3, 1) := by decide +kernel
theorem dX10_sizeInGarden_5 : decode cX10_sizeInGarden 5 = .ok (.aload_n 1, 1) := by decide +kernel
theorem dX10_sizeInGarden_6 : decode cX10_sizeInGarden 6 = .ok (.getfield 31, 3) := by decide +kernel
theorem dX10_sizeInGarden_9 : decode cX10_sizeInGarden 9 = .ok (.if_icmp .ge 36, 3) := by decide +kernel
theorem dX10_sizeInGarden_12 : decode cX10_sizeInGarden 12 = .ok (.iload_n 2, 1) := by decide +kernel
theorem dX10_sizeInGarden_13 : decode cX10_sizeInGarden 13 = .ok (.aload_n 0, 1) := by decide +kernel
theorem dX10_sizeInGarden_14 : decode cX10_sizeInGarden 14 = .ok (.getfield 12, 3) := by decide +kernel
theorem dX10_sizeInGarden_17 : decode cX10_sizeInGarden 17 = .ok (.iload_n 3, 1) := by decide +kernel
theorem dX10_sizeInGarden_18 : decode cX10_sizeInGarden 18 = .ok (.invokevirtual 36, 3) := by decide +kernel
theorem dX10_sizeInGarden_21 : decode cX10_sizeInGarden 21 = .ok (.iconst (-1), 1) := by decide +kernel
theorem dX10_sizeInGarden_22 : decode cX10_sizeInGarden 22 = .ok (.if_icmp .ne 14, 3) := by decide +kernel
theorem dX10_sizeInGarden_25 : decode cX10_sizeInGarden 25 = .ok (.aload_n 0, 1) := by decide +kernel
theorem dX10_sizeInGarden_26 : decode cX10_sizeInGarden 26 = .ok (.getfield 12, 3) := by decide +kernel
theorem dX10_sizeInGarden_29 : decode cX10_sizeInGarden 29 = .ok (.iload_n 3, 1) := by decide +kernel
theorem dX10_sizeInGarden_30 : decode cX10_sizeInGarden 30 = .ok (.invokevirtual 56, 3) := by decide +kernel
theorem dX10_sizeInGarden_33 : decode cX10_sizeInGarden 33 = .ok (.goto 4, 3) := by decide +kernel
theorem dX10_sizeInGarden_36 : decode cX10_sizeInGarden 36 = .ok (.iconst 0, 1) := by decide +kernel
theorem dX10_sizeInGarden_37 : decode cX10_sizeInGarden 37 = .ok (.iadd, 1) := by decide +kernel
theorem dX10_sizeInGarden_38 : decode cX10_sizeInGarden 38 = .ok (.istore_n 2, 1) := by decide +kernel
theorem dX10_sizeInGarden_39 : decode cX10_sizeInGarden 39 = .ok (.iinc 3 1, 3) := by decide +kernel
theorem dX10_sizeInGarden_42 : decode cX10_sizeInGarden 42 = .ok (.goto (-38), 3) := by decide +kernel
theorem dX10_sizeInGarden_45 : decode cX10_sizeInGarden 45 = .ok (.iload_n 2, 1) := by decide +kernel
theorem dX10_sizeInGarden_46 : decode cX10_sizeInGarden 46 = .ok (.ireturn, 1) := by decide +kernel
theorem dJ6_bitCount_0f7a4_0 : decode cJ6_bitCount_0f7a4 0 = .ok (.iload_n 0, 1) := by decide +kernel
theorem dJ6_bitCount_0f7a4_1 : decode cJ6_bitCount_0f7a4 1 = .ok (.iload_n 0, 1) := by decide +kernel
theorem dJ6_bitCount_0f7a4_2 : decode cJ6_bitCount_0f7a4 2 = .ok (.iconst 1, 1) := by decide +kernel
theorem dJ6_bitCount_0f7a4_3 : decode cJ6_bitCount_0f7a4 3 = .ok (.iushr, 1) := by decide +kernel
theorem dJ6_bitCount_0f7a4_4 : decode cJ6_bitCount_0f7a4 4 = .ok (.ldc_w 265, 3) := by decide +kernel
theorem dJ6_bitCount_0f7a4_7 : decode cJ6_bitCount_0f7a4 7 = .ok (.iand, 1) := by decide +kernel
theorem dJ6_bitCount_0f7a4_8 : decode cJ6_bitCount_0f7a4 8 = .ok (.isub, 1) := by decide +kernel
theorem dJ6_bitCount_0f7a4_9 : decode cJ6_bitCount_0f7a4 9 = .ok (.istore_n 0, 1) := by decide +kernel
theorem dJ6_bitCount_0f7a4_10 : decode cJ6_bitCount_0f7a4 10 = .ok (.iload_n 0, 1) := by decide +kernel
theorem dJ6_bitCount_0f7a4_11 : decode cJ6_bitCount_0f7a4 11 = .ok (.ldc_w 266, 3) := by decide +kernel
theorem dJ6_bitCount_0f7a4_14 : decode cJ6_bitCount_0f7a4 14 = .ok (.iand, 1) := by decide +kernel
theorem dJ6_bitCount_0f7a4_15 : decode cJ6_bitCount_0f7a4 15 = .ok (.iload_n 0, 1) := by decide +kernel
theorem dJ6_bitCount_0f7a4_16 : decode cJ6_bitCount_0f7a4 16 = .ok (.iconst 2, 1) := by decide +kernel
theorem dJ6_bitCount_0f7a4_17 : decode cJ6_bitCount_0f7a4 17 = .ok (.iushr, 1) := by decide +kernel
theorem dJ6_bitCount_0f7a4_18 : decode cJ6_bitCount_0f7a4 18 = .ok (.ldc_w 266, 3) := by decide +kernel
theorem dJ6_bitCount_0f7a4_21 : decode cJ6_bitCount_0f7a4 21 = .ok (.iand, 1) := by decide +kernel
theorem dJ6_bitCount_0f7a4_22 : decode cJ6_bitCount_0f7a4 22 = .ok (.iadd, 1) := by decide +kernel
theorem dJ6_bitCount_0f7a4_23 : decode cJ6_bitCount_0f7a4 23 = .ok (.istore_n 0, 1) := by decide +kernel
theorem dJ6_bitCount_0f7a4_24 : decode cJ6_bitCount_0f7a4 24 = .ok (.iload_n 0, 1) := by decide +kernel
theorem dJ6_bitCount_0f7a4_25 : decode cJ6_bitCount_0f7a4 25 = .ok (.iload_n 0, 1) := by decide +kernel
theorem dJ6_bitCount_0f7a4_26 : decode cJ6_bitCount_0f7a4 26 = .ok (.iconst 4, 1) := by decide +kernel
theorem dJ6_bitCount_0f7a4_27 : decode cJ6_bitCount_0f7a4 27 = .ok (.iushr, 1) := by decide +kernel
theorem dJ6_bitCount_0f7a4_28 : decode cJ6_bitCount_0f7a4 28 = .ok (.iadd, 1) := by decide +kernel
theorem dJ6_bitCount_0f7a4_29 : decode cJ6_bitCount_0f7a4 29 = .ok (.ldc_w 267, 3) := by decide +kernel
theorem dJ6_bitCount_0f7a4_32 : decode cJ6_bitCount_0f7a4 32 = .ok (.iand, 1) := by decide +kernel
theorem dJ6_bitCount_0f7a4_33 : decode cJ6_bitCount_0f7a4 33 = .ok (.istore_n 0, 1) := by decide +kernel
theorem dJ6_bitCount_0f7a4_34 : decode cJ6_bitCount_0f7a4 34 = .ok (.iload_n 0, 1) := by decide +kernel
theorem dJ6_bitCount_0f7a4_35 : decode cJ6_bitCount_0f7a4 35 = .ok (.iload_n 0, 1) := by decide +kernel
theorem dJ6_bitCount_0f7a4_36 : decode cJ6_bitCount_0f7a4 36 = .ok (.bipush 8, 2) := by decide +kernel
theorem dJ6_bitCount_0f7a4_38 : decode cJ6_bitCount_0f7a4 38 = .ok (.iushr, 1) := by decide +kernel
theorem dJ6_bitCount_0f7a4_39 : decode cJ6_bitCount_0f7a4 39 = .ok (.iadd, 1) := by decide +kernel
theorem dJ6_bitCount_0f7a4_40 : decode cJ6_bitCount_0f7a4 40 = .ok (.istore_n 0, 1) := by decide +kernel
theorem dJ6_bitCount_0f7a4_41 : decode cJ6_bitCount_0f7a4 41 = .ok (.iload_n 0, 1) := by decide +kernel
theorem dJ6_bitCount_0f7a4_42 : decode cJ6_bitCount_0f7a4 42 = .ok (.iload_n 0, 1) := by decide +kernel
theorem dJ6_bitCount_0f7a4_43 : decode cJ6_bitCount_0f7a4 43 = .ok (.bipush 16, 2) := by decide +kernel
theorem dJ6_bitCount_0f7a4_45 : decode cJ6_bitCount_0f7a4 45 = .ok (.iushr, 1) := by decide +kernel
theorem dJ6_bitCount_0f7a4_46 : decode cJ6_bitCount_0f7a4 46 = .ok (.iadd, 1) := by decide +kernel
theorem dJ6_bitCount_0f7a4_47 : decode cJ6_bitCount_0f7a4 47 = .ok (.istore_n 0, 1) := by decide +kernel
theorem dJ6_bitCount_0f7a4_48 : decode cJ6_bitCount_0f7a4 48 = .ok (.iload_n 0, 1) := by decide +kernel
theorem dJ6_bitCount_0f7a4_49 : decode cJ6_bitCount_0f7a4 49 = .ok (.bipush 63, 2) := by decide +kernel
theorem dJ6_bitCount_0f7a4_51 : decode cJ6_bitCount_0f7a4 51 = .ok (.iand, 1) := by decide +kernel
theorem dJ6_bitCount_0f7a4_52 : decode cJ6_bitCount_0f7a4 52 = .ok (.ireturn, 1) := by decide +kernel
theorem dJ9_abs_0f7a4_0 : decode cJ9_abs_0f7a4 0 = .ok (.iload_n 0, 1) := by decide +kernel
theorem dJ9_abs_0f7a4_1 : decode cJ9_abs_0f7a4 1 = .ok (.ifCond .ge 8, 3) := by decide +kernel
theorem dJ9_abs_0f7a4_4 : decode cJ9_abs_0f7a4 4 = .ok (.iload_n 0, 1) := by decide +kernel
theorem dJ9_abs_0f7a4_5 : decode cJ9_abs_0f7a4 5 = .ok (.ineg, 1) := by decide +kernel
theorem dJ9_abs_0f7a4_6 : decode cJ9_abs_0f7a4 6 = .ok (.goto 4, 3) := by decide +kernel
theorem dJ9_abs_0f7a4_9 : decode cJ9_abs_0f7a4 9 = .ok (.iload_n 0, 1) := by decide +kernel
theorem dJ9_abs_0f7a4_10 : decode cJ9_abs_0f7a4 10 = .ok (.ireturn, 1) := by decide +kernel
theorem dJ9_max_7cf53_0 : decode cJ9_max_7cf53 0 = .ok (.iload_n 0, 1) := by decide +kernel
theorem dJ9_max_7cf53_1 : decode cJ9_max_7cf53 1 = .ok (.iload_n 1, 1) := by decide +kernel
theorem dJ9_max_7cf53_2 : decode cJ9_max_7cf53 2 = .ok (.if_icmp .lt 7, 3) := by decide +kernel
theorem dJ9_max_7cf53_5 : decode cJ9_max_7cf53 5 = .ok (.iload_n 0, 1) := by decide +kernel
theorem dJ9_max_7cf53_6 : decode cJ9_max_7cf53 6 = .ok (.goto 4, 3) := by decide +kernel
theorem dJ9_max_7cf53_9 : decode cJ9_max_7cf53 9 = .ok (.iload_n 1, 1) := by decide +kernel
theorem dJ9_max_7cf53_10 : decode cJ9_max_7cf53 10 = .ok (.ireturn, 1) := by decide +kernel
theorem dJ9_min_7cf53_0 : decode cJ9_min_7cf53 0 = .ok (.iload_n 0, 1) := by decide +kernel
theorem dJ9_min_7cf53_1 : decode cJ9_min_7cf53 1 = .ok (.iload_n 1, 1) := by decide +kernel
theorem dJ9_min_7cf53_2 : decode cJ9_min_7cf53 2 = .ok (.if_icmp .gt 7, 3) := by decide +kernel
theorem dJ9_min_7cf53_5 : decode cJ9_min_7cf53 5 = .ok (.iload_n 0, 1) := by decide +kernel
theorem dJ9_min_7cf53_6 : decode cJ9_min_7cf53 6 = .ok (.goto 4, 3) := by decide +kernel
theorem dJ9_min_7cf53_9 : decode cJ9_min_7cf53 9 = .ok (.iload_n 1, 1) := by decide +kernel
theorem dJ9_min_7cf53_10 : decode cJ9_min_7cf53 10 = .ok (.ireturn, 1) := by decide +kernel
theorem dJ0_length_8abf5_0 : decode cJ0_length_8abf5 0 = .ok (.aload_n 0, 1) := by decide +kernel
theorem dJ0_length_8abf5_1 : decode cJ0_length_8abf5 1 = .ok (.getfield 9, 3) := by decide +kernel
theorem dJ0_length_8abf5_4 : decode cJ0_length_8abf5 4 = .ok (.arraylength, 1) := by decide +kernel
theorem dJ0_length_8abf5_5 : decode cJ0_length_8abf5 5 = .ok (.aload_n 0, 1) := by decide +kernel
theorem dJ0_length_8abf5_6 : decode cJ0_length_8abf5 6 = .ok (.invokevirtual 335, 3) := by decide +kernel
theorem dJ0_length_8abf5_9 : decode cJ0_length_8abf5 9 = .ok (.ishr, 1) := by decide +kernel
theorem dJ0_length_8abf5_10 : decode cJ0_length_8abf5 10 = .ok (.ireturn, 1) := by decide +kernel
theorem dJ0_charAt_5068e_0 : decode cJ0_charAt_5068e 0 = .ok (.aload_n 0, 1) := by decide +kernel
theorem dJ0_charAt_5068e_1 : decode cJ0_charAt_5068e 1 = .ok (.invokevirtual 492, 3) := by decide +kernel
theorem dJ0_charAt_5068e_4 : decode cJ0_charAt_5068e 4 = .ok (.ifCond .eq 12, 3) := by decide +kernel
theorem dJ0_charAt_5068e_7 : decode cJ0_charAt_5068e 7 = .ok (.aload_n 0, 1) := by decide +kernel
theorem dJ0_charAt_5068e_8 : decode cJ0_charAt_5068e 8 = .ok (.getfield 9, 3) := by decide +kernel
theorem dJ0_charAt_5068e_11 : decode cJ0_charAt_5068e 11 = .ok (.iload_n 1, 1) := by decide +kernel
theorem dJ0_charAt_5068e_12 : decode cJ0_charAt_5068e 12 = .ok (.invokestatic 495, 3) := by decide +kernel
theorem dJ0_charAt_5068e_15 : decode cJ0_charAt_5068e 15 = .ok (.ireturn, 1) := by decide +kernel
theorem dJ0_charAt_5068e_16 : decode cJ0_charAt_5068e 16 = .ok (.aload_n 0, 1) := by decide +kernel
theorem dJ0_charAt_5068e_17 : decode cJ0_charAt_5068e 17 = .ok (.getfield 9, 3) := by decide +kernel
theorem dJ0_charAt_5068e_20 : decode cJ0_charAt_5068e 20 = .ok (.iload_n 1, 1) := by decide +kernel
theorem dJ0_charAt_5068e_21 : decode cJ0_charAt_5068e 21 = .ok (.invokestatic 498, 3) := by decide +kernel
theorem dJ0_charAt_5068e_24 : decode cJ0_charAt_5068e 24 = .ok (.ireturn, 1) := by decide +kernel
theorem dJ0_coder_7d493_0 : decode cJ0_coder_7d493 0 = .ok (.getstatic 38, 3) := by decide +kernel
theorem dJ0_coder_7d493_3 : decode cJ0_coder_7d493 3 = .ok (.ifCond .eq 10, 3) := by decide +kernel
theorem dJ0_coder_7d493_6 : decode cJ0_coder_7d493 6 = .ok (.aload_n 0, 1) := by decide +kernel
theorem dJ0_coder_7d493_7 : decode cJ0_coder_7d493 7 = .ok (.getfield 15, 3) := by decide +kernel
theorem dJ0_coder_7d493_10 : decode cJ0_coder_7d493 10 = .ok (.goto 4, 3) := by decide +kernel
theorem dJ0_coder_7d493_13 : decode cJ0_coder_7d493 13 = .ok (.iconst 1, 1) := by decide +kernel
theorem dJ0_coder_7d493_14 : decode cJ0_coder_7d493 14 = .ok (.ireturn, 1) := by decide +kernel
theorem dJ0_isLatin1_aae02_0 : decode cJ0_isLatin1_aae02 0 = .ok (.getstatic 38, 3) := by decide +kernel
theorem dJ0_isLatin1_aae02_3 : decode cJ0_isLatin1_aae02 3 = .ok (.ifCond .eq 14, 3) := by decide +kernel
theorem dJ0_isLatin1_aae02_6 : decode cJ0_isLatin1_aae02 6 = .ok (.aload_n 0, 1) := by decide +kernel
theorem dJ0_isLatin1_aae02_7 : decode cJ0_isLatin1_aae02 7 = .ok (.getfield 15, 3) := by decide +kernel
theorem dJ0_isLatin1_aae02_10 : decode cJ0_isLatin1_aae02 10 = .ok (.ifCond .ne 7, 3) := by decide +kernel
theorem dJ0_isLatin1_aae02_13 : decode cJ0_isLatin1_aae02 13 = .ok (.iconst 1, 1) := by decide +kernel
theorem dJ0_isLatin1_aae02_14 : decode cJ0_isLatin1_aae02 14 = .ok (.goto 4, 3) := by decide +kernel
theorem dJ0_isLatin1_aae02_17 : decode cJ0_isLatin1_aae02 17 = .ok (.iconst 0, 1) := by decide +kernel
theorem dJ0_isLatin1_aae02_18 : decode cJ0_isLatin1_aae02 18 = .ok (.ireturn, 1) := by decide +kernel
theorem dJ0_checkIndex_df160_0 : decode cJ0_checkIndex_df160 0 = .ok (.iload_n 0, 1) := by decide +kernel
theorem dJ0_checkIndex_df160_1 : decode cJ0_checkIndex_df160 1 = .ok (.iload_n 1, 1) := by decide +kernel
theorem dJ0_checkIndex_df160_2 : decode cJ0_checkIndex_df160 2 = .ok (.getstatic 1053, 3) := by decide +kernel
theorem dJ0_checkIndex_df160_5 : decode cJ0_checkIndex_df160 5 = .ok (.invokestatic 1059, 3) := by decide +kernel
theorem dJ0_checkIndex_df160_8 : decode cJ0_checkIndex_df160 8 = .ok (.pop, 1) := by decide +kernel
theorem dJ0_checkIndex_df160_9 : decode cJ0_checkIndex_df160 9 = .ok (.return_, 1) := by decide +kernel
theorem dJ1_charAt_3b067_0 : decode cJ1_charAt_3b067 0 = .ok (.iload_n 1, 1) := by decide +kernel
theorem dJ1_charAt_3b067_1 : decode cJ1_charAt_3b067 1 = .ok (.aload_n 0, 1) := by decide +kernel
theorem dJ1_charAt_3b067_2 : decode cJ1_charAt_3b067 2 = .ok (.arraylength, 1) := by decide +kernel
theorem dJ1_charAt_3b067_3 : decode cJ1_charAt_3b067 3 = .ok (.invokestatic 9, 3) := by decide +kernel
theorem dJ1_charAt_3b067_6 : decode cJ1_charAt_3b067 6 = .ok (.aload_n 0, 1) := by decide +kernel
theorem dJ1_charAt_3b067_7 : decode cJ1_charAt_3b067 7 = .ok (.iload_n 1, 1) := by decide +kernel
theorem dJ1_charAt_3b067_8 : decode cJ1_charAt_3b067 8 = .ok (.baload, 1) := by decide +kernel
theorem dJ1_charAt_3b067_9 : decode cJ1_charAt_3b067 9 = .ok (.sipush 255, 3) := by decide +kernel
theorem dJ1_charAt_3b067_12 : decode cJ1_charAt_3b067 12 = .ok (.iand, 1) := by decide +kernel
theorem dJ1_charAt_3b067_13 : decode cJ1_charAt_3b067 13 = .ok (.i2c, 1) := by decide +kernel
theorem dJ1_charAt_3b067_14 : decode cJ1_charAt_3b067 14 = .ok (.ireturn, 1) := by decide +kernel
theorem dJ2_getChar_3b067_0 : decode cJ2_getChar_3b067 0 = .ok (.getstatic 44, 3) := by decide +kernel
theorem dJ2_getChar_3b067_3 : decode cJ2_getChar_3b067 3 = .ok (.ifCond .ne 25, 3) := by decide +kernel
theorem dJ2_getChar_3b067_6 : decode cJ2_getChar_3b067 6 = .ok (.iload_n 1, 1) := by decide +kernel
theorem dJ2_getChar_3b067_7 : decode cJ2_getChar_3b067 7 = .ok (.ifCond .lt 11, 3) := by decide +kernel
theorem dJ2_getChar_3b067_10 : decode cJ2_getChar_3b067 10 = .ok (.iload_n 1, 1) := by decide +kernel
theorem dJ2_getChar_3b067_11 : decode cJ2_getChar_3b067 11 = .ok (.aload_n 0, 1) := by decide +kernel
theorem dJ2_getChar_3b067_12 : decode cJ2_getChar_3b067 12 = .ok (.invokestatic 48, 3) := by decide +kernel
theorem dJ2_getChar_3b067_15 : decode cJ2_getChar_3b067 15 = .ok (.if_icmp .lt 13, 3) := by decide +kernel
theorem dJ2_getChar_3b067_18 : decode cJ2_getChar_3b067 18 = .ok (.new 52, 3) := by decide +kernel
theorem dJ2_getChar_3b067_21 : decode cJ2_getChar_3b067 21 = .ok (.dup, 1) := by decide +kernel
theorem dJ2_getChar_3b067_22 : decode cJ2_getChar_3b067 22 = .ok (.ldc 54, 2) := by decide +kernel
theorem dJ2_getChar_3b067_24 : decode cJ2_getChar_3b067 24 = .ok (.invokespecial 56, 3) := by decide +kernel
theorem dJ2_getChar_3b067_27 : decode cJ2_getChar_3b067 27 = .ok (.athrow, 1) := by decide +kernel
theorem dJ2_getChar_3b067_28 : decode cJ2_getChar_3b067 28 = .ok (.iload_n 1, 1) := by decide +kernel
theorem dJ2_getChar_3b067_29 : decode cJ2_getChar_3b067 29 = .ok (.iconst 1, 1) := by decide +kernel
theorem dJ2_getChar_3b067_30 : decode cJ2_getChar_3b067 30 = .ok (.ishl, 1) := by decide +kernel
theorem dJ2_getChar_3b067_31 : decode cJ2_getChar_3b067 31 = .ok (.istore_n 1, 1) := by decide +kernel
theorem dJ2_getChar_3b067_32 : decode cJ2_getChar_3b067 32 = .ok (.aload_n 0, 1) := by decide +kernel
theorem dJ2_getChar_3b067_33 : decode cJ2_getChar_3b067 33 = .ok (.iload_n 1, 1) := by decide +kernel
theorem dJ2_getChar_3b067_34 : decode cJ2_getChar_3b067 34 = .ok (.iinc 1 1, 3) := by decide +kernel
theorem dJ2_getChar_3b067_37 : decode cJ2_getChar_3b067 37 = .ok (.baload, 1) := by decide +kernel
theorem dJ2_getChar_3b067_38 : decode cJ2_getChar_3b067 38 = .ok (.sipush 255, 3) := by decide +kernel
theorem dJ2_getChar_3b067_41 : decode cJ2_getChar_3b067 41 = .ok (.iand, 1) := by decide +kernel
theorem dJ2_getChar_3b067_42 : decode cJ2_getChar_3b067 42 = .ok (.getstatic 59, 3) := by decide +kernel
theorem dJ2_getChar_3b067_45 : decode cJ2_getChar_3b067 45 = .ok (.ishl, 1) := by decide +kernel
theorem dJ2_getChar_3b067_46 : decode cJ2_getChar_3b067 46 = .ok (.aload_n 0, 1) := by decide +kernel
theorem dJ2_getChar_3b067_47 : decode cJ2_getChar_3b067 47 = .ok (.iload_n 1, 1) := by decide +kernel
theorem dJ2_getChar_3b067_48 : decode cJ2_getChar_3b067 48 = .ok (.baload, 1) := by decide +kernel
theorem dJ2_getChar_3b067_49 : decode cJ2_getChar_3b067 49 = .ok (.sipush 255, 3) := by decide +kernel
theorem dJ2_getChar_3b067_52 : decode cJ2_getChar_3b067 52 = .ok (.iand, 1) := by decide +kernel
theorem dJ2_getChar_3b067_53 : decode cJ2_getChar_3b067 53 = .ok (.getstatic 63, 3) := by decide +kernel
theorem dJ2_getChar_3b067_56 : decode cJ2_getChar_3b067 56 = .ok (.ishl, 1) := by decide +kernel
theorem dJ2_getChar_3b067_57 : decode cJ2_getChar_3b067 57 = .ok (.ior, 1) := by decide +kernel
theorem dJ2_getChar_3b067_58 : decode cJ2_getChar_3b067 58 = .ok (.i2c, 1) := by decide +kernel
theorem dJ2_getChar_3b067_59 : decode cJ2_getChar_3b067 59 = .ok (.ireturn, 1) := by decide +kernel
theorem dJ2_length_9d52b_0 : decode cJ2_length_9d52b 0 = .ok (.aload_n 0, 1) := by decide +kernel
theorem dJ2_length_9d52b_1 : decode cJ2_length_9d52b 1 = .ok (.arraylength, 1) := by decide +kernel
theorem dJ2_length_9d52b_2 : decode cJ2_length_9d52b 2 = .ok (.iconst 1, 1) := by decide +kernel
theorem dJ2_length_9d52b_3 : decode cJ2_length_9d52b 3 = .ok (.ishr, 1) := by decide +kernel
theorem dJ2_length_9d52b_4 : decode cJ2_length_9d52b 4 = .ok (.ireturn, 1) := by decide +kernel
theorem dJ2_charAt_3b067_0 : decode cJ2_charAt_3b067 0 = .ok (.iload_n 1, 1) := by decide +kernel
theorem dJ2_charAt_3b067_1 : decode cJ2_charAt_3b067 1 = .ok (.aload_n 0, 1) := by decide +kernel
theorem dJ2_charAt_3b067_2 : decode cJ2_charAt_3b067 2 = .ok (.invokestatic 67, 3) := by decide +kernel
theorem dJ2_charAt_3b067_5 : decode cJ2_charAt_3b067 5 = .ok (.aload_n 0, 1) := by decide +kernel
theorem dJ2_charAt_3b067_6 : decode cJ2_charAt_3b067 6 = .ok (.iload_n 1, 1) := by decide +kernel
theorem dJ2_charAt_3b067_7 : decode cJ2_charAt_3b067 7 = .ok (.invokestatic 71, 3) := by decide +kernel
theorem dJ2_charAt_3b067_10 : decode cJ2_charAt_3b067 10 = .ok (.ireturn, 1) := by decide +kernel
theorem dJ2_checkIndex_2214a_0 : decode cJ2_checkIndex_2214a 0 = .ok (.iload_n 0, 1) := by decide +kernel
theorem dJ2_checkIndex_2214a_1 : decode cJ2_checkIndex_2214a 1 = .ok (.aload_n 1, 1) := by decide +kernel
theorem dJ2_checkIndex_2214a_2 : decode cJ2_checkIndex_2214a 2 = .ok (.invokestatic 48, 3) := by decide +kernel
theorem dJ2_checkIndex_2214a_5 : decode cJ2_checkIndex_2214a 5 = .ok (.invokestatic 414, 3) := by decide +kernel
theorem dJ2_checkIndex_2214a_8 : decode cJ2_checkIndex_2214a 8 = .ok (.return_, 1) := by decide +kernel
theorem dJ3_checkIndex_8e157_0 : decode cJ3_checkIndex_8e157 0 = .ok (.iload_n 0, 1) := by decide +kernel
theorem dJ3_checkIndex_8e157_1 : decode cJ3_checkIndex_8e157 1 = .ok (.ifCond .lt 8, 3) := by decide +kernel
theorem dJ3_checkIndex_8e157_4 : decode cJ3_checkIndex_8e157 4 = .ok (.iload_n 0, 1) := by decide +kernel
theorem dJ3_checkIndex_8e157_5 : decode cJ3_checkIndex_8e157 5 = .ok (.iload_n 1, 1) := by decide +kernel
theorem dJ3_checkIndex_8e157_6 : decode cJ3_checkIndex_8e157 6 = .ok (.if_icmp .lt 10, 3) := by decide +kernel
theorem dJ3_checkIndex_8e157_9 : decode cJ3_checkIndex_8e157 9 = .ok (.aload_n 2, 1) := by decide +kernel
theorem dJ3_checkIndex_8e157_10 : decode cJ3_checkIndex_8e157 10 = .ok (.iload_n 0, 1) := by decide +kernel
theorem dJ3_checkIndex_8e157_11 : decode cJ3_checkIndex_8e157 11 = .ok (.iload_n 1, 1) := by decide +kernel
theorem dJ3_checkIndex_8e157_12 : decode cJ3_checkIndex_8e157 12 = .ok (.invokestatic 95, 3) := by decide +kernel
theorem dJ3_checkIndex_8e157_15 : decode cJ3_checkIndex_8e157 15 = .ok (.athrow, 1) := by decide +kernel
theorem dJ3_checkIndex_8e157_16 : decode cJ3_checkIndex_8e157 16 = .ok (.iload_n 0, 1) := by decide +kernel
theorem dJ3_checkIndex_8e157_17 : decode cJ3_checkIndex_8e157 17 = .ok (.ireturn, 1) := by decide +kernel
