theorem dX11_init_0 : decode cX11_init 0 = .ok (.aload_n 0, 1) := by decide +kernel
theorem dX11_init_1 : decode cX11_init 1 = .ok (.invokespecial 1, 3) := by decide +kernel
theorem dX11_init_4 : decode cX11_init 4 = .ok (.aload_n 0, 1) := by decide +kernel
theorem dX11_init_5 : decode cX11_init 5 = .ok (.new 7, 3) := by decide +kernel
theorem dX11_init_8 : decode cX11_init 8 = .ok (.dup, 1) := by decide +kernel
theorem dX11_init_9 : decode cX11_init 9 = .ok (.invokespecial 9, 3) := by decide +kernel
theorem dX11_init_12 : decode cX11_init 12 = .ok (.putfield 10, 3) := by decide +kernel
theorem dX11_init_15 : decode cX11_init 15 = .ok (.aload_n 0, 1) := by decide +kernel
theorem dX11_init_16 : decode cX11_init 16 = .ok (.iconst (-1), 1) := by decide +kernel
theorem dX11_init_17 : decode cX11_init 17 = .ok (.putfield 16, 3) := by decide +kernel
theorem dX11_init_20 : decode cX11_init 20 = .ok (.aload_n 0, 1) := by decide +kernel
theorem dX11_init_21 : decode cX11_init 21 = .ok (.iconst 3, 1) := by decide +kernel
theorem dX11_init_22 : decode cX11_init 22 = .ok (.newarray .int, 2) := by decide +kernel
theorem dX11_init_24 : decode cX11_init 24 = .ok (.putfield 20, 3) := by decide +kernel
theorem dX11_init_27 : decode cX11_init 27 = .ok (.aload_n 0, 1) := by decide +kernel
theorem dX11_init_28 : decode cX11_init 28 = .ok (.new 24, 3) := by decide +kernel
theorem dX11_init_31 : decode cX11_init 31 = .ok (.dup, 1) := by decide +kernel
theorem dX11_init_32 : decode cX11_init 32 = .ok (.invokespecial 26, 3) := by decide +kernel
theorem dX11_init_35 : decode cX11_init 35 = .ok (.putfield 27, 3) := by decide +kernel
theorem dX11_init_38 : decode cX11_init 38 = .ok (.aload_n 0, 1) := by decide +kernel
theorem dX11_init_39 : decode cX11_init 39 = .ok (.new 31, 3) := by decide +kernel
theorem dX11_init_42 : decode cX11_init 42 = .ok (.dup, 1) := by decide +kernel
theorem dX11_init_43 : decode cX11_init 43 = .ok (.invokespecial 33, 3) := by decide +kernel
theorem dX11_init_46 : decode cX11_init 46 = .ok (.putfield 34, 3) := by decide +kernel
theorem dX11_init_49 : decode cX11_init 49 = .ok (.aload_n 0, 1) := by decide +kernel
theorem dX11_init_50 : decode cX11_init 50 = .ok (.new 38, 3) := by decide +kernel
theorem dX11_init_53 : decode cX11_init 53 = .ok (.dup, 1) := by decide +kernel
theorem dX11_init_54 : decode cX11_init 54 = .ok (.invokespecial 40, 3) := by decide +kernel
theorem dX11_init_57 : decode cX11_init 57 = .ok (.putfield 41, 3) := by decide +kernel
theorem dX11_init_60 : decode cX11_init 60 = .ok (.aload_n 0, 1) := by decide +kernel
theorem dX11_init_61 : decode cX11_init 61 = .ok (.new 45, 3) := by decide +kernel
theorem dX11_init_64 : decode cX11_init 64 = .ok (.dup, 1) := by decide +kernel
theorem dX11_init_65 : decode cX11_init 65 = .ok (.invokespecial 47, 3) := by decide +kernel
theorem dX11_init_68 : decode cX11_init 68 = .ok (.putfield 48, 3) := by decide +kernel
theorem dX11_init_71 : decode cX11_init 71 = .ok (.aload_n 0, 1) := by decide +kernel
theorem dX11_init_72 : decode cX11_init 72 = .ok (.new 31, 3) := by decide +kernel
theorem dX11_init_75 : decode cX11_init 75 = .ok (.dup, 1) := by decide +kernel
theorem dX11_init_76 : decode cX11_init 76 = .ok (.invokespecial 33, 3) := by decide +kernel
theorem dX11_init_79 : decode cX11_init 79 = .ok (.putfield 52, 3) := by decide +kernel
theorem dX11_init_82 : decode cX11_init 82 = .ok (.aload_n 0, 1) := by decide +kernel
theorem dX11_init_83 : decode cX11_init 83 = .ok (.new 38, 3) := by decide +kernel
theorem dX11_init_86 : decode cX11_init 86 = .ok (.dup, 1) := by decide +kernel
theorem dX11_init_87 : decode cX11_init 87 = .ok (.invokespecial 40, 3) := by decide +kernel
theorem dX11_init_90 : decode cX11_init 90 = .ok (.putfield 55, 3) := by decide +kernel
theorem dX11_init_93 : decode cX11_init 93 = .ok (.aload_n 0, 1) := by decide +kernel
theorem dX11_init_94 : decode cX11_init 94 = .ok (.new 45, 3) := by decide +kernel
theorem dX11_init_97 : decode cX11_init 97 = .ok (.dup, 1) := by decide +kernel
theorem dX11_init_98 : decode cX11_init 98 = .ok (.invokespecial 47, 3) := by decide +kernel
theorem dX11_init_101 : decode cX11_init 101 = .ok (.putfield 58, 3) := by decide +kernel
theorem dX11_init_104 : decode cX11_init 104 = .ok (.aload_n 0, 1) := by decide +kernel
theorem dX11_init_105 : decode cX11_init 105 = .ok (.iconst 0, 1) := by decide +kernel
theorem dX11_init_106 : decode cX11_init 106 = .ok (.putfield 61, 3) := by decide +kernel
theorem dX11_init_109 : decode cX11_init 109 = .ok (.aload_n 0, 1) := by decide +kernel
theorem dX11_init_110 : decode cX11_init 110 = .ok (.new 65, 3) := by decide +kernel
theorem dX11_init_113 : decode cX11_init 113 = .ok (.dup, 1) := by decide +kernel
theorem dX11_init_114 : decode cX11_init 114 = .ok (.invokespecial 67, 3) := by decide +kernel
theorem dX11_init_117 : decode cX11_init 117 = .ok (.putfield 68, 3) := by decide +kernel
theorem dX11_init_120 : decode cX11_init 120 = .ok (.aload_n 0, 1) := by decide +kernel
theorem dX11_init_121 : decode cX11_init 121 = .ok (.new 72, 3) := by decide +kernel
theorem dX11_init_124 : decode cX11_init 124 = .ok (.dup, 1) := by decide +kernel
theorem dX11_init_125 : decode cX11_init 125 = .ok (.invokespecial 74, 3) := by decide +kernel
theorem dX11_init_128 : decode cX11_init 128 = .ok (.putfield 75, 3) := by decide +kernel
theorem dX11_init_131 : decode cX11_init 131 = .ok (.aload_n 0, 1) := by decide +kernel
theorem dX11_init_132 : decode cX11_init 132 = .ok (.new 79, 3) := by decide +kernel
theorem dX11_init_135 : decode cX11_init 135 = .ok (.dup, 1) := by decide +kernel
theorem dX11_init_136 : decode cX11_init 136 = .ok (.invokespecial 81, 3) := by decide +kernel
theorem dX11_init_139 : decode cX11_init 139 = .ok (.putfield 82, 3) := by decide +kernel
theorem dX11_init_142 : decode cX11_init 142 = .ok (.aload_n 0, 1) := by decide +kernel
theorem dX11_init_143 : decode cX11_init 143 = .ok (.new 86, 3) := by decide +kernel
theorem dX11_init_146 : decode cX11_init 146 = .ok (.dup, 1) := by decide +kernel
theorem dX11_init_147 : decode cX11_init 147 = .ok (.invokespecial 88, 3) := by decide +kernel
theorem dX11_init_150 : decode cX11_init 150 = .ok (.putfield 89, 3) := by decide +kernel
theorem dX11_init_153 : decode cX11_init 153 = .ok (.aload_n 0, 1) := by decide +kernel
theorem dX11_init_154 : decode cX11_init 154 = .ok (.new 93, 3) := by decide +kernel
theorem dX11_init_157 : decode cX11_init 157 = .ok (.dup, 1) := by decide +kernel
theorem dX11_init_158 : decode cX11_init 158 = .ok (.invokespecial 95, 3) := by decide +kernel
theorem dX11_init_161 : decode cX11_init 161 = .ok (.putfield 96, 3) := by decide +kernel
theorem dX11_init_164 : decode cX11_init 164 = .ok (.return_, 1) := by decide +kernel
theorem dX11_feed_0 : decode cX11_feed 0 = .ok (.aload_n 0, 1) := by decide +kernel
theorem dX11_feed_1 : decode cX11_feed 1 = .ok (.getfield 10, 3) := by decide +kernel
theorem dX11_feed_4 : decode cX11_feed 4 = .ok (.invokevirtual 100, 3) := by decide +kernel
theorem dX11_feed_7 : decode cX11_feed 7 = .ok (.sipush 680, 3) := by decide +kernel
theorem dX11_feed_10 : decode cX11_feed 10 = .ok (.if_icmp .le 5, 3) := by decide +kernel
theorem dX11_feed_13 : decode cX11_feed 13 = .ok (.iconst (-1), 1) := by decide +kernel
theorem dX11_feed_14 : decode cX11_feed 14 = .ok (.ireturn, 1) := by decide +kernel
theorem dX11_feed_15 : decode cX11_feed 15 = .ok (.aload_n 0, 1) := by decide +kernel
theorem dX11_feed_16 : decode cX11_feed 16 = .ok (.getfield 10, 3) := by decide +kernel
theorem dX11_feed_19 : decode cX11_feed 19 = .ok (.iload_n 1, 1) := by decide +kernel
theorem dX11_feed_20 : decode cX11_feed 20 = .ok (.invokevirtual 104, 3) := by decide +kernel
theorem dX11_feed_23 : decode cX11_feed 23 = .ok (.aload_n 0, 1) := by decide +kernel
theorem dX11_feed_24 : decode cX11_feed 24 = .ok (.getfield 10, 3) := by decide +kernel
theorem dX11_feed_27 : decode cX11_feed 27 = .ok (.iload_n 2, 1) := by decide +kernel
theorem dX11_feed_28 : decode cX11_feed 28 = .ok (.invokevirtual 104, 3) := by decide +kernel
theorem dX11_feed_31 : decode cX11_feed 31 = .ok (.aload_n 0, 1) := by decide +kernel
theorem dX11_feed_32 : decode cX11_feed 32 = .ok (.getfield 10, 3) := by decide +kernel
theorem dX11_feed_35 : decode cX11_feed 35 = .ok (.iload_n 3, 1) := by decide +kernel
theorem dX11_feed_36 : decode cX11_feed 36 = .ok (.invokevirtual 104, 3) := by decide +kernel
theorem dX11_feed_39 : decode cX11_feed 39 = .ok (.aload_n 0, 1) := by decide +kernel
theorem dX11_feed_40 : decode cX11_feed 40 = .ok (.getfield 10, 3) := by decide +kernel
theorem dX11_feed_43 : decode cX11_feed 43 = .ok (.iload 4, 2) := by decide +kernel
theorem dX11_feed_45 : decode cX11_feed 45 = .ok (.invokevirtual 104, 3) := by decide +kernel
theorem dX11_feed_48 : decode cX11_feed 48 = .ok (.aload_n 0, 1) := by decide +kernel
theorem dX11_feed_49 : decode cX11_feed 49 = .ok (.getfield 10, 3) := by decide +kernel
theorem dX11_feed_52 : decode cX11_feed 52 = .ok (.iload 5, 2) := by decide +kernel
theorem dX11_feed_54 : decode cX11_feed 54 = .ok (.invokevirtual 104, 3) := by decide +kernel
theorem dX11_feed_57 : decode cX11_feed 57 = .ok (.aload_n 0, 1) := by decide +kernel
theorem dX11_feed_58 : decode cX11_feed 58 = .ok (.getfield 10, 3) := by decide +kernel
theorem dX11_feed_61 : decode cX11_feed 61 = .ok (.invokevirtual 100, 3) := by decide +kernel
theorem dX11_feed_64 : decode cX11_feed 64 = .ok (.ireturn, 1) := by decide +kernel
theorem dX11_tower_0 : decode cX11_tower 0 = .ok (.iload_n 1, 1) := by decide +kernel
theorem dX11_tower_1 : decode cX11_tower 1 = .ok (.ifCond .lt 14, 3) := by decide +kernel
theorem dX11_tower_4 : decode cX11_tower 4 = .ok (.iload_n 1, 1) := by decide +kernel
theorem dX11_tower_5 : decode cX11_tower 5 = .ok (.aload_n 0, 1) := by decide +kernel
theorem dX11_tower_6 : decode cX11_tower 6 = .ok (.getfield 10, 3) := by decide +kernel
theorem dX11_tower_9 : decode cX11_tower 9 = .ok (.invokevirtual 100, 3) := by decide +kernel
theorem dX11_tower_12 : decode cX11_tower 12 = .ok (.if_icmp .le 13, 3) := by decide +kernel
theorem dX11_tower_15 : decode cX11_tower 15 = .ok (.new 108, 3) := by decide +kernel
theorem dX11_tower_18 : decode cX11_tower 18 = .ok (.dup, 1) := by decide +kernel
theorem dX11_tower_19 : decode cX11_tower 19 = .ok (.ldc 110, 2) := by decide +kernel
theorem dX11_tower_21 : decode cX11_tower 21 = .ok (.invokespecial 112, 3) := by decide +kernel
theorem dX11_tower_24 : decode cX11_tower 24 = .ok (.athrow, 1) := by decide +kernel
theorem dX11_tower_25 : decode cX11_tower 25 = .ok (.aload_n 0, 1) := by decide +kernel
theorem dX11_tower_26 : decode cX11_tower 26 = .ok (.getfield 10, 3) := by decide +kernel
theorem dX11_tower_29 : decode cX11_tower 29 = .ok (.iload_n 1, 1) := by decide +kernel
theorem dX11_tower_30 : decode cX11_tower 30 = .ok (.invokevirtual 115, 3) := by decide +kernel
theorem dX11_tower_33 : decode cX11_tower 33 = .ok (.istore_n 2, 1) := by decide +kernel
theorem dX11_tower_34 : decode cX11_tower 34 = .ok (.iload_n 2, 1) := by decide +kernel
theorem dX11_tower_35 : decode cX11_tower 35 = .ok (.ifCond .eq 26, 3) := by decide +kernel
theorem dX11_tower_38 : decode cX11_tower 38 = .ok (.aload_n 0, 1) := by decide +kernel
theorem dX11_tower_39 : decode cX11_tower 39 = .ok (.aload_n 0, 1) := by decide +kernel
theorem dX11_tower_40 : decode cX11_tower 40 = .ok (.getfield 10, 3) := by decide +kernel
theorem dX11_tower_43 : decode cX11_tower 43 = .ok (.invokevirtual 119, 3) := by decide +kernel
theorem dX11_tower_46 : decode cX11_tower 46 = .ok (.putfield 16, 3) := by decide +kernel
theorem dX11_tower_49 : decode cX11_tower 49 = .ok (.aload_n 0, 1) := by decide +kernel
theorem dX11_tower_50 : decode cX11_tower 50 = .ok (.getfield 20, 3) := by decide +kernel
theorem dX11_tower_53 : decode cX11_tower 53 = .ok (.iconst 0, 1) := by decide +kernel
theorem dX11_tower_54 : decode cX11_tower 54 = .ok (.dup2, 1) := by decide +kernel
theorem dX11_tower_55 : decode cX11_tower 55 = .ok (.iaload, 1) := by decide +kernel
theorem dX11_tower_56 : decode cX11_tower 56 = .ok (.iconst 1, 1) := by decide +kernel
theorem dX11_tower_57 : decode cX11_tower 57 = .ok (.iadd, 1) := by decide +kernel
theorem dX11_tower_58 : decode cX11_tower 58 = .ok (.iastore, 1) := by decide +kernel
theorem dX11_tower_59 : decode cX11_tower 59 = .ok (.iload_n 2, 1) := by decide +kernel
theorem dX11_tower_60 : decode cX11_tower 60 = .ok (.ireturn, 1) := by decide +kernel
theorem dX11_tower_61 : decode cX11_tower 61 = .ok (.aload_n 0, 1) := by decide +kernel
theorem dX11_tower_62 : decode cX11_tower 62 = .ok (.iconst (-1), 1) := by decide +kernel
theorem dX11_tower_63 : decode cX11_tower 63 = .ok (.putfield 16, 3) := by decide +kernel
theorem dX11_tower_66 : decode cX11_tower 66 = .ok (.aload_n 0, 1) := by decide +kernel
theorem dX11_tower_67 : decode cX11_tower 67 = .ok (.aload_n 0, 1) := by decide +kernel
theorem dX11_tower_68 : decode cX11_tower 68 = .ok (.getfield 10, 3) := by decide +kernel
theorem dX11_tower_71 : decode cX11_tower 71 = .ok (.aload_n 0, 1) := by decide +kernel
theorem dX11_tower_72 : decode cX11_tower 72 = .ok (.getfield 27, 3) := by decide +kernel
theorem dX11_tower_75 : decode cX11_tower 75 = .ok (.invokevirtual 122, 3) := by decide +kernel
theorem dX11_tower_78 : decode cX11_tower 78 = .ok (.putfield 27, 3) := by decide +kernel
theorem dX11_tower_81 : decode cX11_tower 81 = .ok (.aload_n 0, 1) := by decide +kernel
theorem dX11_tower_82 : decode cX11_tower 82 = .ok (.getfield 34, 3) := by decide +kernel
theorem dX11_tower_85 : decode cX11_tower 85 = .ok (.aload_n 0, 1) := by decide +kernel
theorem dX11_tower_86 : decode cX11_tower 86 = .ok (.getfield 27, 3) := by decide +kernel
theorem dX11_tower_89 : decode cX11_tower 89 = .ok (.getfield 126, 3) := by decide +kernel
theorem dX11_tower_92 : decode cX11_tower 92 = .ok (.invokevirtual 129, 3) := by decide +kernel
theorem dX11_tower_95 : decode cX11_tower 95 = .ok (.aload_n 0, 1) := by decide +kernel
theorem dX11_tower_96 : decode cX11_tower 96 = .ok (.getfield 41, 3) := by decide +kernel
theorem dX11_tower_99 : decode cX11_tower 99 = .ok (.invokevirtual 133, 3) := by decide +kernel
theorem dX11_tower_102 : decode cX11_tower 102 = .ok (.aload_n 0, 1) := by decide +kernel
theorem dX11_tower_103 : decode cX11_tower 103 = .ok (.getfield 48, 3) := by decide +kernel
theorem dX11_tower_106 : decode cX11_tower 106 = .ok (.invokevirtual 136, 3) := by decide +kernel
theorem dX11_tower_109 : decode cX11_tower 109 = .ok (.aload_n 0, 1) := by decide +kernel
theorem dX11_tower_110 : decode cX11_tower 110 = .ok (.iconst 0, 1) := by decide +kernel
theorem dX11_tower_111 : decode cX11_tower 111 = .ok (.putfield 61, 3) := by decide +kernel
theorem dX11_tower_114 : decode cX11_tower 114 = .ok (.aload_n 0, 1) := by decide +kernel
theorem dX11_tower_115 : decode cX11_tower 115 = .ok (.invokevirtual 137, 3) := by decide +kernel
theorem dX11_tower_118 : decode cX11_tower 118 = .ok (.iconst 0, 1) := by decide +kernel
theorem dX11_tower_119 : decode cX11_tower 119 = .ok (.ireturn, 1) := by decide +kernel
theorem dX11_fault_0 : decode cX11_fault 0 = .ok (.aload_n 0, 1) := by decide +kernel
theorem dX11_fault_1 : decode cX11_fault 1 = .ok (.getfield 16, 3) := by decide +kernel
theorem dX11_fault_4 : decode cX11_fault 4 = .ok (.ireturn, 1) := by decide +kernel
theorem dX11_count_0 : decode cX11_count 0 = .ok (.iload_n 1, 1) := by decide +kernel
theorem dX11_count_1 : decode cX11_count 1 = .ok (.tableswitch 211 0 16 #[83, 91, 99, 107, 122, 130, 138, 146, 151, 157, 164, 177, 185, 193, 201, 201, 201], 83) := by decide +kernel
theorem dX11_count_84 : decode cX11_count 84 = .ok (.aload_n 0, 1) := by decide +kernel
theorem dX11_count_85 : decode cX11_count 85 = .ok (.getfield 27, 3) := by decide +kernel
theorem dX11_count_88 : decode cX11_count 88 = .ok (.getfield 140, 3) := by decide +kernel
theorem dX11_count_91 : decode cX11_count 91 = .ok (.ireturn, 1) := by decide +kernel
theorem dX11_count_92 : decode cX11_count 92 = .ok (.aload_n 0, 1) := by decide +kernel
theorem dX11_count_93 : decode cX11_count 93 = .ok (.invokevirtual 143, 3) := by decide +kernel
theorem dX11_count_96 : decode cX11_count 96 = .ok (.invokestatic 146, 3) := by decide +kernel
theorem dX11_count_99 : decode cX11_count 99 = .ok (.ireturn, 1) := by decide +kernel
theorem dX11_count_100 : decode cX11_count 100 = .ok (.aload_n 0, 1) := by decide +kernel
theorem dX11_count_101 : decode cX11_count 101 = .ok (.getfield 34, 3) := by decide +kernel
theorem dX11_count_104 : decode cX11_count 104 = .ok (.invokevirtual 151, 3) := by decide +kernel
theorem dX11_count_107 : decode cX11_count 107 = .ok (.ireturn, 1) := by decide +kernel
theorem dX11_count_108 : decode cX11_count 108 = .ok (.aload_n 0, 1) := by decide +kernel
theorem dX11_count_109 : decode cX11_count 109 = .ok (.getfield 27, 3) := by decide +kernel
theorem dX11_count_112 : decode cX11_count 112 = .ok (.aload_n 0, 1) := by decide +kernel
theorem dX11_count_113 : decode cX11_count 113 = .ok (.getfield 34, 3) := by decide +kernel
theorem dX11_count_116 : decode cX11_count 116 = .ok (.invokevirtual 151, 3) := by decide +kernel
theorem dX11_count_119 : decode cX11_count 119 = .ok (.invokevirtual 154, 3) := by decide +kernel
theorem dX11_count_122 : decode cX11_count 122 = .ok (.ireturn, 1) := by decide +kernel
theorem dX11_count_123 : decode cX11_count 123 = .ok (.aload_n 0, 1) := by decide +kernel
theorem dX11_count_124 : decode cX11_count 124 = .ok (.getfield 27, 3) := by decide +kernel
theorem dX11_count_127 : decode cX11_count 127 = .ok (.getfield 157, 3) := by decide +kernel
theorem dX11_count_130 : decode cX11_count 130 = .ok (.ireturn, 1) := by decide +kernel
theorem dX11_count_131 : decode cX11_count 131 = .ok (.aload_n 0, 1) := by decide +kernel
theorem dX11_count_132 : decode cX11_count 132 = .ok (.getfield 27, 3) := by decide +kernel
theorem dX11_count_135 : decode cX11_count 135 = .ok (.getfield 160, 3) := by decide +kernel
theorem dX11_count_138 : decode cX11_count 138 = .ok (.ireturn, 1) := by decide +kernel
theorem dX11_count_139 : decode cX11_count 139 = .ok (.aload_n 0, 1) := by decide +kernel
theorem dX11_count_140 : decode cX11_count 140 = .ok (.getfield 27, 3) := by decide +kernel
theorem dX11_count_143 : decode cX11_count 143 = .ok (.getfield 163, 3) := by decide +kernel
theorem dX11_count_146 : decode cX11_count 146 = .ok (.ireturn, 1) := by decide +kernel
theorem dX11_count_147 : decode cX11_count 147 = .ok (.aload_n 0, 1) := by decide +kernel
theorem dX11_count_148 : decode cX11_count 148 = .ok (.invokevirtual 166, 3) := by decide +kernel
theorem dX11_count_151 : decode cX11_count 151 = .ok (.ireturn, 1) := by decide +kernel
theorem dX11_count_152 : decode cX11_count 152 = .ok (.aload_n 0, 1) := by decide +kernel
theorem dX11_count_153 : decode cX11_count 153 = .ok (.iconst (-1), 1) := by decide +kernel
theorem dX11_count_154 : decode cX11_count 154 = .ok (.invokevirtual 169, 3) := by decide +kernel
theorem dX11_count_157 : decode cX11_count 157 = .ok (.ireturn, 1) := by decide +kernel
theorem dX11_count_158 : decode cX11_count 158 = .ok (.aload_n 0, 1) := by decide +kernel
theorem dX11_count_159 : decode cX11_count 159 = .ok (.bipush (-2), 2) := by decide +kernel
theorem dX11_count_161 : decode cX11_count 161 = .ok (.invokevirtual 169, 3) := by decide +kernel
theorem dX11_count_164 : decode cX11_count 164 = .ok (.ireturn, 1) := by decide +kernel
theorem dX11_count_165 : decode cX11_count 165 = .ok (.aload_n 0, 1) := by decide +kernel
theorem dX11_count_166 : decode cX11_count 166 = .ok (.getfield 68, 3) := by decide +kernel
theorem dX11_count_169 : decode cX11_count 169 = .ok (.iconst 0, 1) := by decide +kernel
theorem dX11_count_170 : decode cX11_count 170 = .ok (.aload_n 0, 1) := by decide +kernel
theorem dX11_count_171 : decode cX11_count 171 = .ok (.invokevirtual 166, 3) := by decide +kernel
theorem dX11_count_174 : decode cX11_count 174 = .ok (.invokevirtual 172, 3) := by decide +kernel
theorem dX11_count_177 : decode cX11_count 177 = .ok (.ireturn, 1) := by decide +kernel
theorem dX11_count_178 : decode cX11_count 178 = .ok (.aload_n 0, 1) := by decide +kernel
theorem dX11_count_179 : decode cX11_count 179 = .ok (.getfield 41, 3) := by decide +kernel
theorem dX11_count_182 : decode cX11_count 182 = .ok (.invokevirtual 176, 3) := by decide +kernel
theorem dX11_count_185 : decode cX11_count 185 = .ok (.ireturn, 1) := by decide +kernel
theorem dX11_count_186 : decode cX11_count 186 = .ok (.aload_n 0, 1) := by decide +kernel
theorem dX11_count_187 : decode cX11_count 187 = .ok (.getfield 48, 3) := by decide +kernel
theorem dX11_count_190 : decode cX11_count 190 = .ok (.invokevirtual 179, 3) := by decide +kernel
theorem dX11_count_193 : decode cX11_count 193 = .ok (.ireturn, 1) := by decide +kernel
theorem dX11_count_194 : decode cX11_count 194 = .ok (.aload_n 0, 1) := by decide +kernel
theorem dX11_count_195 : decode cX11_count 195 = .ok (.getfield 10, 3) := by decide +kernel
theorem dX11_count_198 : decode cX11_count 198 = .ok (.invokevirtual 100, 3) := by decide +kernel
theorem dX11_count_201 : decode cX11_count 201 = .ok (.ireturn, 1) := by decide +kernel
theorem dX11_count_202 : decode cX11_count 202 = .ok (.aload_n 0, 1) := by decide +kernel
theorem dX11_count_203 : decode cX11_count 203 = .ok (.getfield 20, 3) := by decide +kernel
theorem dX11_count_206 : decode cX11_count 206 = .ok (.iload_n 1, 1) := by decide +kernel
theorem dX11_count_207 : decode cX11_count 207 = .ok (.bipush 14, 2) := by decide +kernel
theorem dX11_count_209 : decode cX11_count 209 = .ok (.isub, 1) := by decide +kernel
theorem dX11_count_210 : decode cX11_count 210 = .ok (.iaload, 1) := by decide +kernel
theorem dX11_count_211 : decode cX11_count 211 = .ok (.ireturn, 1) := by decide +kernel
theorem dX11_count_212 : decode cX11_count 212 = .ok (.new 180, 3) := by decide +kernel
theorem dX11_count_215 : decode cX11_count 215 = .ok (.dup, 1) := by decide +kernel
theorem dX11_count_216 : decode cX11_count 216 = .ok (.ldc 182, 2) := by decide +kernel
theorem dX11_count_218 : decode cX11_count 218 = .ok (.invokespecial 184, 3) := by decide +kernel
theorem dX11_count_221 : decode cX11_count 221 = .ok (.athrow, 1) := by decide +kernel
theorem dX11_root_0 : decode cX11_root 0 = .ok (.aload_n 0, 1) := by decide +kernel
theorem dX11_root_1 : decode cX11_root 1 = .ok (.iload_n 1, 1) := by decide +kernel
theorem dX11_root_2 : decode cX11_root 2 = .ok (.invokevirtual 185, 3) := by decide +kernel
theorem dX11_root_5 : decode cX11_root 5 = .ok (.iload_n 2, 1) := by decide +kernel
theorem dX11_root_6 : decode cX11_root 6 = .ok (.tableswitch 123 0 7 #[46, 55, 64, 73, 82, 96, 105, 114], 46) := by decide +kernel
theorem dX11_root_52 : decode cX11_root 52 = .ok (.aload_n 0, 1) := by decide +kernel
theorem dX11_root_53 : decode cX11_root 53 = .ok (.getfield 27, 3) := by decide +kernel
theorem dX11_root_56 : decode cX11_root 56 = .ok (.iload_n 1, 1) := by decide +kernel
theorem dX11_root_57 : decode cX11_root 57 = .ok (.invokevirtual 188, 3) := by decide +kernel
theorem dX11_root_60 : decode cX11_root 60 = .ok (.ireturn, 1) := by decide +kernel
theorem dX11_root_61 : decode cX11_root 61 = .ok (.aload_n 0, 1) := by decide +kernel
theorem dX11_root_62 : decode cX11_root 62 = .ok (.getfield 34, 3) := by decide +kernel
theorem dX11_root_65 : decode cX11_root 65 = .ok (.iload_n 1, 1) := by decide +kernel
theorem dX11_root_66 : decode cX11_root 66 = .ok (.invokevirtual 191, 3) := by decide +kernel
theorem dX11_root_69 : decode cX11_root 69 = .ok (.ireturn, 1) := by decide +kernel
theorem dX11_root_70 : decode cX11_root 70 = .ok (.aload_n 0, 1) := by decide +kernel
theorem dX11_root_71 : decode cX11_root 71 = .ok (.getfield 34, 3) := by decide +kernel
theorem dX11_root_74 : decode cX11_root 74 = .ok (.iload_n 1, 1) := by decide +kernel
theorem dX11_root_75 : decode cX11_root 75 = .ok (.invokevirtual 194, 3) := by decide +kernel
theorem dX11_root_78 : decode cX11_root 78 = .ok (.ireturn, 1) := by decide +kernel
theorem dX11_root_79 : decode cX11_root 79 = .ok (.aload_n 0, 1) := by decide +kernel
theorem dX11_root_80 : decode cX11_root 80 = .ok (.getfield 34, 3) := by decide +kernel
theorem dX11_root_83 : decode cX11_root 83 = .ok (.iload_n 1, 1) := by decide +kernel
theorem dX11_root_84 : decode cX11_root 84 = .ok (.invokevirtual 197, 3) := by decide +kernel
theorem dX11_root_87 : decode cX11_root 87 = .ok (.ireturn, 1) := by decide +kernel
theorem dX11_root_88 : decode cX11_root 88 = .ok (.aload_n 0, 1) := by decide +kernel
theorem dX11_root_89 : decode cX11_root 89 = .ok (.getfield 34, 3) := by decide +kernel
theorem dX11_root_92 : decode cX11_root 92 = .ok (.aload_n 0, 1) := by decide +kernel
theorem dX11_root_93 : decode cX11_root 93 = .ok (.getfield 27, 3) := by decide +kernel
theorem dX11_root_96 : decode cX11_root 96 = .ok (.iload_n 1, 1) := by decide +kernel
theorem dX11_root_97 : decode cX11_root 97 = .ok (.iconst 0, 1) := by decide +kernel
theorem dX11_root_98 : decode cX11_root 98 = .ok (.invokevirtual 200, 3) := by decide +kernel
theorem dX11_root_101 : decode cX11_root 101 = .ok (.ireturn, 1) := by decide +kernel
theorem dX11_root_102 : decode cX11_root 102 = .ok (.aload_n 0, 1) := by decide +kernel
theorem dX11_root_103 : decode cX11_root 103 = .ok (.getfield 34, 3) := by decide +kernel
theorem dX11_root_106 : decode cX11_root 106 = .ok (.iload_n 1, 1) := by decide +kernel
theorem dX11_root_107 : decode cX11_root 107 = .ok (.invokevirtual 204, 3) := by decide +kernel
theorem dX11_root_110 : decode cX11_root 110 = .ok (.ireturn, 1) := by decide +kernel
theorem dX11_root_111 : decode cX11_root 111 = .ok (.aload_n 0, 1) := by decide +kernel
theorem dX11_root_112 : decode cX11_root 112 = .ok (.invokevirtual 166, 3) := by decide +kernel
theorem dX11_root_115 : decode cX11_root 115 = .ok (.iload_n 1, 1) := by decide +kernel
theorem dX11_root_116 : decode cX11_root 116 = .ok (.ishr, 1) := by decide +kernel
theorem dX11_root_117 : decode cX11_root 117 = .ok (.iconst 1, 1) := by decide +kernel
theorem dX11_root_118 : decode cX11_root 118 = .ok (.iand, 1) := by decide +kernel
theorem dX11_root_119 : decode cX11_root 119 = .ok (.ireturn, 1) := by decide +kernel
theorem dX11_root_120 : decode cX11_root 120 = .ok (.aload_n 0, 1) := by decide +kernel
theorem dX11_root_121 : decode cX11_root 121 = .ok (.getfield 34, 3) := by decide +kernel
theorem dX11_root_124 : decode cX11_root 124 = .ok (.iload_n 1, 1) := by decide +kernel
theorem dX11_root_125 : decode cX11_root 125 = .ok (.invokevirtual 207, 3) := by decide +kernel
theorem dX11_root_128 : decode cX11_root 128 = .ok (.ireturn, 1) := by decide +kernel
theorem dX11_root_129 : decode cX11_root 129 = .ok (.new 180, 3) := by decide +kernel
theorem dX11_root_132 : decode cX11_root 132 = .ok (.dup, 1) := by decide +kernel
theorem dX11_root_133 : decode cX11_root 133 = .ok (.ldc 210, 2) := by decide +kernel
theorem dX11_root_135 : decode cX11_root 135 = .ok (.invokespecial 184, 3) := by decide +kernel
theorem dX11_root_138 : decode cX11_root 138 = .ok (.athrow, 1) := by decide +kernel
theorem dX11_hook_0 : decode cX11_hook 0 = .ok (.aload_n 0, 1) := by decide +kernel
theorem dX11_hook_1 : decode cX11_hook 1 = .ok (.iload_n 1, 1) := by decide +kernel
theorem dX11_hook_2 : decode cX11_hook 2 = .ok (.invokevirtual 212, 3) := by decide +kernel
theorem dX11_hook_5 : decode cX11_hook 5 = .ok (.aload_n 0, 1) := by decide +kernel
theorem dX11_hook_6 : decode cX11_hook 6 = .ok (.getfield 34, 3) := by decide +kernel
theorem dX11_hook_9 : decode cX11_hook 9 = .ok (.iload_n 1, 1) := by decide +kernel
theorem dX11_hook_10 : decode cX11_hook 10 = .ok (.aload_n 0, 1) := by decide +kernel
theorem dX11_hook_11 : decode cX11_hook 11 = .ok (.getfield 27, 3) := by decide +kernel
theorem dX11_hook_14 : decode cX11_hook 14 = .ok (.getfield 140, 3) := by decide +kernel
theorem dX11_hook_17 : decode cX11_hook 17 = .ok (.invokevirtual 215, 3) := by decide +kernel
theorem dX11_hook_20 : decode cX11_hook 20 = .ok (.ireturn, 1) := by decide +kernel
theorem dX11_tune_0 : decode cX11_tune 0 = .ok (.iload_n 1, 1) := by decide +kernel
theorem dX11_tune_1 : decode cX11_tune 1 = .ok (.ifCond .lt 14, 3) := by decide +kernel
theorem dX11_tune_4 : decode cX11_tune 4 = .ok (.iload_n 1, 1) := by decide +kernel
theorem dX11_tune_5 : decode cX11_tune 5 = .ok (.aload_n 0, 1) := by decide +kernel
theorem dX11_tune_6 : decode cX11_tune 6 = .ok (.getfield 27, 3) := by decide +kernel
theorem dX11_tune_9 : decode cX11_tune 9 = .ok (.getfield 160, 3) := by decide +kernel
theorem dX11_tune_12 : decode cX11_tune 12 = .ok (.if_icmp .lt 13, 3) := by decide +kernel
theorem dX11_tune_15 : decode cX11_tune 15 = .ok (.new 180, 3) := by decide +kernel
theorem dX11_tune_18 : decode cX11_tune 18 = .ok (.dup, 1) := by decide +kernel
theorem dX11_tune_19 : decode cX11_tune 19 = .ok (.ldc 218, 2) := by decide +kernel
theorem dX11_tune_21 : decode cX11_tune 21 = .ok (.invokespecial 184, 3) := by decide +kernel
theorem dX11_tune_24 : decode cX11_tune 24 = .ok (.athrow, 1) := by decide +kernel
theorem dX11_tune_25 : decode cX11_tune 25 = .ok (.aload_n 0, 1) := by decide +kernel
theorem dX11_tune_26 : decode cX11_tune 26 = .ok (.getfield 27, 3) := by decide +kernel
theorem dX11_tune_29 : decode cX11_tune 29 = .ok (.iload_n 1, 1) := by decide +kernel
theorem dX11_tune_30 : decode cX11_tune 30 = .ok (.invokevirtual 220, 3) := by decide +kernel
theorem dX11_tune_33 : decode cX11_tune 33 = .ok (.ireturn, 1) := by decide +kernel
theorem dX11_change_0 : decode cX11_change 0 = .ok (.aload_n 0, 1) := by decide +kernel
theorem dX11_change_1 : decode cX11_change 1 = .ok (.iload_n 1, 1) := by decide +kernel
theorem dX11_change_2 : decode cX11_change 2 = .ok (.invokevirtual 223, 3) := by decide +kernel
theorem dX11_change_5 : decode cX11_change 5 = .ok (.aload_n 0, 1) := by decide +kernel
theorem dX11_change_6 : decode cX11_change 6 = .ok (.getfield 34, 3) := by decide +kernel
theorem dX11_change_9 : decode cX11_change 9 = .ok (.iload_n 1, 1) := by decide +kernel
theorem dX11_change_10 : decode cX11_change 10 = .ok (.invokevirtual 226, 3) := by decide +kernel
theorem dX11_change_13 : decode cX11_change 13 = .ok (.ireturn, 1) := by decide +kernel
theorem dX11_days_0 : decode cX11_days 0 = .ok (.iload_n 1, 1) := by decide +kernel
theorem dX11_days_1 : decode cX11_days 1 = .ok (.iconst 1, 1) := by decide +kernel
theorem dX11_days_2 : decode cX11_days 2 = .ok (.if_icmp .lt 24, 3) := by decide +kernel
theorem dX11_days_5 : decode cX11_days 5 = .ok (.iload_n 1, 1) := by decide +kernel
theorem dX11_days_6 : decode cX11_days 6 = .ok (.bipush 30, 2) := by decide +kernel
theorem dX11_days_8 : decode cX11_days 8 = .ok (.if_icmp .gt 18, 3) := by decide +kernel
theorem dX11_days_11 : decode cX11_days 11 = .ok (.aload_n 0, 1) := by decide +kernel
theorem dX11_days_12 : decode cX11_days 12 = .ok (.getfield 34, 3) := by decide +kernel
theorem dX11_days_15 : decode cX11_days 15 = .ok (.invokevirtual 151, 3) := by decide +kernel
theorem dX11_days_18 : decode cX11_days 18 = .ok (.iload_n 1, 1) := by decide +kernel
theorem dX11_days_19 : decode cX11_days 19 = .ok (.iadd, 1) := by decide +kernel
theorem dX11_days_20 : decode cX11_days 20 = .ok (.sipush 999, 3) := by decide +kernel
theorem dX11_days_23 : decode cX11_days 23 = .ok (.if_icmp .le 9, 3) := by decide +kernel
theorem dX11_days_26 : decode cX11_days 26 = .ok (.aload_n 0, 1) := by decide +kernel
theorem dX11_days_27 : decode cX11_days 27 = .ok (.iconst (-1), 1) := by decide +kernel
theorem dX11_days_28 : decode cX11_days 28 = .ok (.invokevirtual 229, 3) := by decide +kernel
theorem dX11_days_31 : decode cX11_days 31 = .ok (.ireturn, 1) := by decide +kernel
theorem dX11_days_32 : decode cX11_days 32 = .ok (.aload_n 0, 1) := by decide +kernel
theorem dX11_days_33 : decode cX11_days 33 = .ok (.invokevirtual 232, 3) := by decide +kernel
theorem dX11_days_36 : decode cX11_days 36 = .ok (.iconst 0, 1) := by decide +kernel
theorem dX11_days_37 : decode cX11_days 37 = .ok (.istore_n 2, 1) := by decide +kernel
theorem dX11_days_38 : decode cX11_days 38 = .ok (.iload_n 2, 1) := by decide +kernel
theorem dX11_days_39 : decode cX11_days 39 = .ok (.iload_n 1, 1) := by decide +kernel
theorem dX11_days_40 : decode cX11_days 40 = .ok (.if_icmp .ge 34, 3) := by decide +kernel
theorem dX11_days_43 : decode cX11_days 43 = .ok (.aload_n 0, 1) := by decide +kernel
theorem dX11_days_44 : decode cX11_days 44 = .ok (.getfield 34, 3) := by decide +kernel
theorem dX11_days_47 : decode cX11_days 47 = .ok (.aload_n 0, 1) := by decide +kernel
theorem dX11_days_48 : decode cX11_days 48 = .ok (.getfield 27, 3) := by decide +kernel
theorem dX11_days_51 : decode cX11_days 51 = .ok (.aload_n 0, 1) := by decide +kernel
theorem dX11_days_52 : decode cX11_days 52 = .ok (.getfield 27, 3) := by decide +kernel
theorem dX11_days_55 : decode cX11_days 55 = .ok (.aload_n 0, 1) := by decide +kernel
theorem dX11_days_56 : decode cX11_days 56 = .ok (.getfield 34, 3) := by decide +kernel
theorem dX11_days_59 : decode cX11_days 59 = .ok (.invokevirtual 151, 3) := by decide +kernel
theorem dX11_days_62 : decode cX11_days 62 = .ok (.invokevirtual 154, 3) := by decide +kernel
theorem dX11_days_65 : decode cX11_days 65 = .ok (.invokevirtual 235, 3) := by decide +kernel
theorem dX11_days_68 : decode cX11_days 68 = .ok (.iinc 2 1, 3) := by decide +kernel
theorem dX11_days_71 : decode cX11_days 71 = .ok (.goto (-33), 3) := by decide +kernel
theorem dX11_days_74 : decode cX11_days 74 = .ok (.aload_n 0, 1) := by decide +kernel
theorem dX11_days_75 : decode cX11_days 75 = .ok (.getfield 34, 3) := by decide +kernel
theorem dX11_days_78 : decode cX11_days 78 = .ok (.invokevirtual 151, 3) := by decide +kernel
theorem dX11_days_81 : decode cX11_days 81 = .ok (.ireturn, 1) := by decide +kernel
theorem dX11_hang_0 : decode cX11_hang 0 = .ok (.aload_n 0, 1) := by decide +kernel
theorem dX11_hang_1 : decode cX11_hang 1 = .ok (.iload_n 1, 1) := by decide +kernel
theorem dX11_hang_2 : decode cX11_hang 2 = .ok (.invokevirtual 185, 3) := by decide +kernel
theorem dX11_hang_5 : decode cX11_hang 5 = .ok (.aload_n 0, 1) := by decide +kernel
theorem dX11_hang_6 : decode cX11_hang 6 = .ok (.iload_n 2, 1) := by decide +kernel
theorem dX11_hang_7 : decode cX11_hang 7 = .ok (.invokevirtual 212, 3) := by decide +kernel
theorem dX11_hang_10 : decode cX11_hang 10 = .ok (.aload_n 0, 1) := by decide +kernel
theorem dX11_hang_11 : decode cX11_hang 11 = .ok (.getfield 34, 3) := by decide +kernel
theorem dX11_hang_14 : decode cX11_hang 14 = .ok (.iload_n 1, 1) := by decide +kernel
theorem dX11_hang_15 : decode cX11_hang 15 = .ok (.invokevirtual 204, 3) := by decide +kernel
theorem dX11_hang_18 : decode cX11_hang 18 = .ok (.istore_n 3, 1) := by decide +kernel
theorem dX11_hang_19 : decode cX11_hang 19 = .ok (.iload_n 3, 1) := by decide +kernel
theorem dX11_hang_20 : decode cX11_hang 20 = .ok (.bipush (-2), 2) := by decide +kernel
theorem dX11_hang_22 : decode cX11_hang 22 = .ok (.if_icmp .eq 22, 3) := by decide +kernel
theorem dX11_hang_25 : decode cX11_hang 25 = .ok (.aload_n 0, 1) := by decide +kernel
theorem dX11_hang_26 : decode cX11_hang 26 = .ok (.getfield 34, 3) := by decide +kernel
theorem dX11_hang_29 : decode cX11_hang 29 = .ok (.iload_n 2, 1) := by decide +kernel
theorem dX11_hang_30 : decode cX11_hang 30 = .ok (.aload_n 0, 1) := by decide +kernel
theorem dX11_hang_31 : decode cX11_hang 31 = .ok (.getfield 27, 3) := by decide +kernel
theorem dX11_hang_34 : decode cX11_hang 34 = .ok (.getfield 140, 3) := by decide +kernel
theorem dX11_hang_37 : decode cX11_hang 37 = .ok (.invokevirtual 215, 3) := by decide +kernel
theorem dX11_hang_40 : decode cX11_hang 40 = .ok (.iconst (-1), 1) := by decide +kernel
theorem dX11_hang_41 : decode cX11_hang 41 = .ok (.if_icmp .eq 10, 3) := by decide +kernel
theorem dX11_hang_44 : decode cX11_hang 44 = .ok (.aload_n 0, 1) := by decide +kernel
theorem dX11_hang_45 : decode cX11_hang 45 = .ok (.bipush (-2), 2) := by decide +kernel
theorem dX11_hang_47 : decode cX11_hang 47 = .ok (.invokevirtual 229, 3) := by decide +kernel
theorem dX11_hang_50 : decode cX11_hang 50 = .ok (.ireturn, 1) := by decide +kernel
theorem dX11_hang_51 : decode cX11_hang 51 = .ok (.aload_n 0, 1) := by decide +kernel
theorem dX11_hang_52 : decode cX11_hang 52 = .ok (.invokevirtual 232, 3) := by decide +kernel
theorem dX11_hang_55 : decode cX11_hang 55 = .ok (.aload_n 0, 1) := by decide +kernel
theorem dX11_hang_56 : decode cX11_hang 56 = .ok (.getfield 34, 3) := by decide +kernel
theorem dX11_hang_59 : decode cX11_hang 59 = .ok (.iload_n 1, 1) := by decide +kernel
theorem dX11_hang_60 : decode cX11_hang 60 = .ok (.iload_n 2, 1) := by decide +kernel
theorem dX11_hang_61 : decode cX11_hang 61 = .ok (.invokevirtual 239, 3) := by decide +kernel
theorem dX11_hang_64 : decode cX11_hang 64 = .ok (.iload_n 3, 1) := by decide +kernel
theorem dX11_hang_65 : decode cX11_hang 65 = .ok (.ireturn, 1) := by decide +kernel
theorem dX11_take_0 : decode cX11_take 0 = .ok (.aload_n 0, 1) := by decide +kernel
theorem dX11_take_1 : decode cX11_take 1 = .ok (.iload_n 1, 1) := by decide +kernel
theorem dX11_take_2 : decode cX11_take 2 = .ok (.invokevirtual 185, 3) := by decide +kernel
theorem dX11_take_5 : decode cX11_take 5 = .ok (.aload_n 0, 1) := by decide +kernel
theorem dX11_take_6 : decode cX11_take 6 = .ok (.getfield 34, 3) := by decide +kernel
theorem dX11_take_9 : decode cX11_take 9 = .ok (.iload_n 1, 1) := by decide +kernel
theorem dX11_take_10 : decode cX11_take 10 = .ok (.invokevirtual 204, 3) := by decide +kernel
theorem dX11_take_13 : decode cX11_take 13 = .ok (.istore_n 2, 1) := by decide +kernel
theorem dX11_take_14 : decode cX11_take 14 = .ok (.iload_n 2, 1) := by decide +kernel
theorem dX11_take_15 : decode cX11_take 15 = .ok (.ifCond .ge 9, 3) := by decide +kernel
theorem dX11_take_18 : decode cX11_take 18 = .ok (.aload_n 0, 1) := by decide +kernel
theorem dX11_take_19 : decode cX11_take 19 = .ok (.iconst (-1), 1) := by decide +kernel
theorem dX11_take_20 : decode cX11_take 20 = .ok (.invokevirtual 229, 3) := by decide +kernel
theorem dX11_take_23 : decode cX11_take 23 = .ok (.ireturn, 1) := by decide +kernel
theorem dX11_take_24 : decode cX11_take 24 = .ok (.aload_n 0, 1) := by decide +kernel
theorem dX11_take_25 : decode cX11_take 25 = .ok (.invokevirtual 232, 3) := by decide +kernel
theorem dX11_take_28 : decode cX11_take 28 = .ok (.aload_n 0, 1) := by decide +kernel
theorem dX11_take_29 : decode cX11_take 29 = .ok (.getfield 34, 3) := by decide +kernel
theorem dX11_take_32 : decode cX11_take 32 = .ok (.iload_n 1, 1) := by decide +kernel
theorem dX11_take_33 : decode cX11_take 33 = .ok (.iconst (-1), 1) := by decide +kernel
theorem dX11_take_34 : decode cX11_take 34 = .ok (.invokevirtual 239, 3) := by decide +kernel
theorem dX11_take_37 : decode cX11_take 37 = .ok (.iload_n 2, 1) := by decide +kernel
theorem dX11_take_38 : decode cX11_take 38 = .ok (.ireturn, 1) := by decide +kernel
theorem dX11_hollow_0 : decode cX11_hollow 0 = .ok (.aload_n 0, 1) := by decide +kernel
theorem dX11_hollow_1 : decode cX11_hollow 1 = .ok (.iload_n 1, 1) := by decide +kernel
theorem dX11_hollow_2 : decode cX11_hollow 2 = .ok (.invokevirtual 185, 3) := by decide +kernel
theorem dX11_hollow_5 : decode cX11_hollow 5 = .ok (.iload_n 2, 1) := by decide +kernel
theorem dX11_hollow_6 : decode cX11_hollow 6 = .ok (.iconst 1, 1) := by decide +kernel
theorem dX11_hollow_7 : decode cX11_hollow 7 = .ok (.if_icmp .lt 15, 3) := by decide +kernel
theorem dX11_hollow_10 : decode cX11_hollow 10 = .ok (.iload_n 2, 1) := by decide +kernel
theorem dX11_hollow_11 : decode cX11_hollow 11 = .ok (.aload_n 0, 1) := by decide +kernel
theorem dX11_hollow_12 : decode cX11_hollow 12 = .ok (.getfield 34, 3) := by decide +kernel
theorem dX11_hollow_15 : decode cX11_hollow 15 = .ok (.iload_n 1, 1) := by decide +kernel
theorem dX11_hollow_16 : decode cX11_hollow 16 = .ok (.invokevirtual 207, 3) := by decide +kernel
theorem dX11_hollow_19 : decode cX11_hollow 19 = .ok (.if_icmp .le 9, 3) := by decide +kernel
theorem dX11_hollow_22 : decode cX11_hollow 22 = .ok (.aload_n 0, 1) := by decide +kernel
theorem dX11_hollow_23 : decode cX11_hollow 23 = .ok (.iconst (-1), 1) := by decide +kernel
theorem dX11_hollow_24 : decode cX11_hollow 24 = .ok (.invokevirtual 229, 3) := by decide +kernel
theorem dX11_hollow_27 : decode cX11_hollow 27 = .ok (.ireturn, 1) := by decide +kernel
theorem dX11_hollow_28 : decode cX11_hollow 28 = .ok (.aload_n 0, 1) := by decide +kernel
theorem dX11_hollow_29 : decode cX11_hollow 29 = .ok (.invokevirtual 232, 3) := by decide +kernel
theorem dX11_hollow_32 : decode cX11_hollow 32 = .ok (.aload_n 0, 1) := by decide +kernel
theorem dX11_hollow_33 : decode cX11_hollow 33 = .ok (.getfield 34, 3) := by decide +kernel
theorem dX11_hollow_36 : decode cX11_hollow 36 = .ok (.iload_n 1, 1) := by decide +kernel
theorem dX11_hollow_37 : decode cX11_hollow 37 = .ok (.aload_n 0, 1) := by decide +kernel
theorem dX11_hollow_38 : decode cX11_hollow 38 = .ok (.getfield 34, 3) := by decide +kernel
theorem dX11_hollow_41 : decode cX11_hollow 41 = .ok (.iload_n 1, 1) := by decide +kernel
theorem dX11_hollow_42 : decode cX11_hollow 42 = .ok (.invokevirtual 194, 3) := by decide +kernel
theorem dX11_hollow_45 : decode cX11_hollow 45 = .ok (.iload_n 2, 1) := by decide +kernel
theorem dX11_hollow_46 : decode cX11_hollow 46 = .ok (.iadd, 1) := by decide +kernel
theorem dX11_hollow_47 : decode cX11_hollow 47 = .ok (.invokevirtual 243, 3) := by decide +kernel
theorem dX11_hollow_50 : decode cX11_hollow 50 = .ok (.aload_n 0, 1) := by decide +kernel
theorem dX11_hollow_51 : decode cX11_hollow 51 = .ok (.getfield 34, 3) := by decide +kernel
theorem dX11_hollow_54 : decode cX11_hollow 54 = .ok (.aload_n 0, 1) := by decide +kernel
theorem dX11_hollow_55 : decode cX11_hollow 55 = .ok (.getfield 27, 3) := by decide +kernel
theorem dX11_hollow_58 : decode cX11_hollow 58 = .ok (.iload_n 1, 1) := by decide +kernel
theorem dX11_hollow_59 : decode cX11_hollow 59 = .ok (.iconst 0, 1) := by decide +kernel
theorem dX11_hollow_60 : decode cX11_hollow 60 = .ok (.invokevirtual 200, 3) := by decide +kernel
theorem dX11_hollow_63 : decode cX11_hollow 63 = .ok (.ireturn, 1) := by decide +kernel
theorem dX11_eat_0 : decode cX11_eat 0 = .ok (.aload_n 0, 1) := by decide +kernel
theorem dX11_eat_1 : decode cX11_eat 1 = .ok (.iload_n 1, 1) := by decide +kernel
theorem dX11_eat_2 : decode cX11_eat 2 = .ok (.invokevirtual 185, 3) := by decide +kernel
theorem dX11_eat_5 : decode cX11_eat 5 = .ok (.aload_n 0, 1) := by decide +kernel
theorem dX11_eat_6 : decode cX11_eat 6 = .ok (.getfield 34, 3) := by decide +kernel
theorem dX11_eat_9 : decode cX11_eat 9 = .ok (.iload_n 1, 1) := by decide +kernel
theorem dX11_eat_10 : decode cX11_eat 10 = .ok (.invokevirtual 204, 3) := by decide +kernel
theorem dX11_eat_13 : decode cX11_eat 13 = .ok (.bipush (-2), 2) := by decide +kernel
theorem dX11_eat_15 : decode cX11_eat 15 = .ok (.if_icmp .ne 15, 3) := by decide +kernel
theorem dX11_eat_18 : decode cX11_eat 18 = .ok (.aload_n 0, 1) := by decide +kernel
theorem dX11_eat_19 : decode cX11_eat 19 = .ok (.getfield 20, 3) := by decide +kernel
theorem dX11_eat_22 : decode cX11_eat 22 = .ok (.iconst 1, 1) := by decide +kernel
theorem dX11_eat_23 : decode cX11_eat 23 = .ok (.dup2, 1) := by decide +kernel
theorem dX11_eat_24 : decode cX11_eat 24 = .ok (.iaload, 1) := by decide +kernel
theorem dX11_eat_25 : decode cX11_eat 25 = .ok (.iconst 1, 1) := by decide +kernel
theorem dX11_eat_26 : decode cX11_eat 26 = .ok (.iadd, 1) := by decide +kernel
theorem dX11_eat_27 : decode cX11_eat 27 = .ok (.iastore, 1) := by decide +kernel
theorem dX11_eat_28 : decode cX11_eat 28 = .ok (.iconst 0, 1) := by decide +kernel
theorem dX11_eat_29 : decode cX11_eat 29 = .ok (.ireturn, 1) := by decide +kernel
theorem dX11_eat_30 : decode cX11_eat 30 = .ok (.aload_n 0, 1) := by decide +kernel
theorem dX11_eat_31 : decode cX11_eat 31 = .ok (.invokevirtual 232, 3) := by decide +kernel
theorem dX11_eat_34 : decode cX11_eat 34 = .ok (.aload_n 0, 1) := by decide +kernel
theorem dX11_eat_35 : decode cX11_eat 35 = .ok (.getfield 34, 3) := by decide +kernel
theorem dX11_eat_38 : decode cX11_eat 38 = .ok (.iload_n 1, 1) := by decide +kernel
theorem dX11_eat_39 : decode cX11_eat 39 = .ok (.bipush (-2), 2) := by decide +kernel
theorem dX11_eat_41 : decode cX11_eat 41 = .ok (.invokevirtual 239, 3) := by decide +kernel
theorem dX11_eat_44 : decode cX11_eat 44 = .ok (.iconst 1, 1) := by decide +kernel
theorem dX11_eat_45 : decode cX11_eat 45 = .ok (.ireturn, 1) := by decide +kernel
theorem dX11_alter_0 : decode cX11_alter 0 = .ok (.aload_n 0, 1) := by decide +kernel
theorem dX11_alter_1 : decode cX11_alter 1 = .ok (.iload_n 1, 1) := by decide +kernel
theorem dX11_alter_2 : decode cX11_alter 2 = .ok (.invokevirtual 223, 3) := by decide +kernel
theorem dX11_alter_5 : decode cX11_alter 5 = .ok (.iload_n 2, 1) := by decide +kernel
theorem dX11_alter_6 : decode cX11_alter 6 = .ok (.invokestatic 246, 3) := by decide +kernel
theorem dX11_alter_9 : decode cX11_alter 9 = .ok (.ifCond .ne 9, 3) := by decide +kernel
theorem dX11_alter_12 : decode cX11_alter 12 = .ok (.aload_n 0, 1) := by decide +kernel
theorem dX11_alter_13 : decode cX11_alter 13 = .ok (.iconst (-1), 1) := by decide +kernel
theorem dX11_alter_14 : decode cX11_alter 14 = .ok (.invokevirtual 229, 3) := by decide +kernel
theorem dX11_alter_17 : decode cX11_alter 17 = .ok (.ireturn, 1) := by decide +kernel
theorem dX11_alter_18 : decode cX11_alter 18 = .ok (.aload_n 0, 1) := by decide +kernel
theorem dX11_alter_19 : decode cX11_alter 19 = .ok (.getfield 34, 3) := by decide +kernel
theorem dX11_alter_22 : decode cX11_alter 22 = .ok (.iload_n 1, 1) := by decide +kernel
theorem dX11_alter_23 : decode cX11_alter 23 = .ok (.invokevirtual 226, 3) := by decide +kernel
theorem dX11_alter_26 : decode cX11_alter 26 = .ok (.istore_n 3, 1) := by decide +kernel
theorem dX11_alter_27 : decode cX11_alter 27 = .ok (.aload_n 0, 1) := by decide +kernel
theorem dX11_alter_28 : decode cX11_alter 28 = .ok (.invokevirtual 232, 3) := by decide +kernel
theorem dX11_alter_31 : decode cX11_alter 31 = .ok (.aload_n 0, 1) := by decide +kernel
theorem dX11_alter_32 : decode cX11_alter 32 = .ok (.getfield 34, 3) := by decide +kernel
theorem dX11_alter_35 : decode cX11_alter 35 = .ok (.iload_n 1, 1) := by decide +kernel
theorem dX11_alter_36 : decode cX11_alter 36 = .ok (.iload_n 2, 1) := by decide +kernel
theorem dX11_alter_37 : decode cX11_alter 37 = .ok (.invokevirtual 250, 3) := by decide +kernel
theorem dX11_alter_40 : decode cX11_alter 40 = .ok (.iload_n 3, 1) := by decide +kernel
theorem dX11_alter_41 : decode cX11_alter 41 = .ok (.ireturn, 1) := by decide +kernel
theorem dX11_undo_0 : decode cX11_undo 0 = .ok (.aload_n 0, 1) := by decide +kernel
theorem dX11_undo_1 : decode cX11_undo 1 = .ok (.getfield 41, 3) := by decide +kernel
theorem dX11_undo_4 : decode cX11_undo 4 = .ok (.aload_n 0, 1) := by decide +kernel
theorem dX11_undo_5 : decode cX11_undo 5 = .ok (.getfield 34, 3) := by decide +kernel
theorem dX11_undo_8 : decode cX11_undo 8 = .ok (.invokevirtual 253, 3) := by decide +kernel
theorem dX11_undo_11 : decode cX11_undo 11 = .ok (.ifCond .ne 5, 3) := by decide +kernel
theorem dX11_undo_14 : decode cX11_undo 14 = .ok (.iconst (-1), 1) := by decide +kernel
theorem dX11_undo_15 : decode cX11_undo 15 = .ok (.ireturn, 1) := by decide +kernel
theorem dX11_undo_16 : decode cX11_undo 16 = .ok (.aload_n 0, 1) := by decide +kernel
theorem dX11_undo_17 : decode cX11_undo 17 = .ok (.invokevirtual 137, 3) := by decide +kernel
theorem dX11_undo_20 : decode cX11_undo 20 = .ok (.aload_n 0, 1) := by decide +kernel
theorem dX11_undo_21 : decode cX11_undo 21 = .ok (.getfield 41, 3) := by decide +kernel
theorem dX11_undo_24 : decode cX11_undo 24 = .ok (.invokevirtual 176, 3) := by decide +kernel
theorem dX11_undo_27 : decode cX11_undo 27 = .ok (.ireturn, 1) := by decide +kernel
theorem dX11_then_0 : decode cX11_then 0 = .ok (.aload_n 0, 1) := by decide +kernel
theorem dX11_then_1 : decode cX11_then 1 = .ok (.iload_n 1, 1) := by decide +kernel
theorem dX11_then_2 : decode cX11_then 2 = .ok (.invokevirtual 185, 3) := by decide +kernel
theorem dX11_then_5 : decode cX11_then 5 = .ok (.aload_n 0, 1) := by decide +kernel
theorem dX11_then_6 : decode cX11_then 6 = .ok (.iload_n 2, 1) := by decide +kernel
theorem dX11_then_7 : decode cX11_then 7 = .ok (.invokevirtual 257, 3) := by decide +kernel
theorem dX11_then_10 : decode cX11_then 10 = .ok (.aload_n 0, 1) := by decide +kernel
theorem dX11_then_11 : decode cX11_then 11 = .ok (.getfield 68, 3) := by decide +kernel
theorem dX11_then_14 : decode cX11_then 14 = .ok (.aload_n 0, 1) := by decide +kernel
theorem dX11_then_15 : decode cX11_then 15 = .ok (.getfield 27, 3) := by decide +kernel
theorem dX11_then_18 : decode cX11_then 18 = .ok (.aload_n 0, 1) := by decide +kernel
theorem dX11_then_19 : decode cX11_then 19 = .ok (.getfield 34, 3) := by decide +kernel
theorem dX11_then_22 : decode cX11_then 22 = .ok (.iload_n 2, 1) := by decide +kernel
theorem dX11_then_23 : decode cX11_then 23 = .ok (.invokevirtual 260, 3) := by decide +kernel
theorem dX11_then_26 : decode cX11_then 26 = .ok (.aload_n 0, 1) := by decide +kernel
theorem dX11_then_27 : decode cX11_then 27 = .ok (.getfield 68, 3) := by decide +kernel
theorem dX11_then_30 : decode cX11_then 30 = .ok (.iload_n 2, 1) := by decide +kernel
theorem dX11_then_31 : decode cX11_then 31 = .ok (.iload_n 1, 1) := by decide +kernel
theorem dX11_then_32 : decode cX11_then 32 = .ok (.invokevirtual 264, 3) := by decide +kernel
theorem dX11_then_35 : decode cX11_then 35 = .ok (.ireturn, 1) := by decide +kernel
theorem dX11_goes_0 : decode cX11_goes 0 = .ok (.aload_n 0, 1) := by decide +kernel
theorem dX11_goes_1 : decode cX11_goes 1 = .ok (.iload_n 1, 1) := by decide +kernel
theorem dX11_goes_2 : decode cX11_goes 2 = .ok (.invokevirtual 185, 3) := by decide +kernel
theorem dX11_goes_5 : decode cX11_goes 5 = .ok (.aload_n 0, 1) := by decide +kernel
theorem dX11_goes_6 : decode cX11_goes 6 = .ok (.getfield 68, 3) := by decide +kernel
theorem dX11_goes_9 : decode cX11_goes 9 = .ok (.aload_n 0, 1) := by decide +kernel
theorem dX11_goes_10 : decode cX11_goes 10 = .ok (.getfield 27, 3) := by decide +kernel
theorem dX11_goes_13 : decode cX11_goes 13 = .ok (.aload_n 0, 1) := by decide +kernel
theorem dX11_goes_14 : decode cX11_goes 14 = .ok (.getfield 34, 3) := by decide +kernel
theorem dX11_goes_17 : decode cX11_goes 17 = .ok (.bipush 60, 2) := by decide +kernel
theorem dX11_goes_19 : decode cX11_goes 19 = .ok (.invokevirtual 260, 3) := by decide +kernel
theorem dX11_goes_22 : decode cX11_goes 22 = .ok (.aload_n 0, 1) := by decide +kernel
theorem dX11_goes_23 : decode cX11_goes 23 = .ok (.iload_n 1, 1) := by decide +kernel
theorem dX11_goes_24 : decode cX11_goes 24 = .ok (.invokevirtual 267, 3) := by decide +kernel
theorem dX11_goes_27 : decode cX11_goes 27 = .ok (.ireturn, 1) := by decide +kernel
theorem dX11_rings_0 : decode cX11_rings 0 = .ok (.aload_n 0, 1) := by decide +kernel
theorem dX11_rings_1 : decode cX11_rings 1 = .ok (.iload_n 1, 1) := by decide +kernel
theorem dX11_rings_2 : decode cX11_rings 2 = .ok (.invokevirtual 257, 3) := by decide +kernel
theorem dX11_rings_5 : decode cX11_rings 5 = .ok (.aload_n 0, 1) := by decide +kernel
theorem dX11_rings_6 : decode cX11_rings 6 = .ok (.getfield 68, 3) := by decide +kernel
theorem dX11_rings_9 : decode cX11_rings 9 = .ok (.aload_n 0, 1) := by decide +kernel
theorem dX11_rings_10 : decode cX11_rings 10 = .ok (.getfield 27, 3) := by decide +kernel
theorem dX11_rings_13 : decode cX11_rings 13 = .ok (.aload_n 0, 1) := by decide +kernel
theorem dX11_rings_14 : decode cX11_rings 14 = .ok (.getfield 34, 3) := by decide +kernel
theorem dX11_rings_17 : decode cX11_rings 17 = .ok (.iload_n 1, 1) := by decide +kernel
theorem dX11_rings_18 : decode cX11_rings 18 = .ok (.invokevirtual 260, 3) := by decide +kernel
theorem dX11_rings_21 : decode cX11_rings 21 = .ok (.aload_n 0, 1) := by decide +kernel
theorem dX11_rings_22 : decode cX11_rings 22 = .ok (.getfield 27, 3) := by decide +kernel
theorem dX11_rings_25 : decode cX11_rings 25 = .ok (.aload_n 0, 1) := by decide +kernel
theorem dX11_rings_26 : decode cX11_rings 26 = .ok (.getfield 68, 3) := by decide +kernel
theorem dX11_rings_29 : decode cX11_rings 29 = .ok (.iload_n 1, 1) := by decide +kernel
theorem dX11_rings_30 : decode cX11_rings 30 = .ok (.aload_n 0, 1) := by decide +kernel
theorem dX11_rings_31 : decode cX11_rings 31 = .ok (.getfield 68, 3) := by decide +kernel
theorem dX11_rings_34 : decode cX11_rings 34 = .ok (.iload_n 1, 1) := by decide +kernel
theorem dX11_rings_35 : decode cX11_rings 35 = .ok (.invokevirtual 270, 3) := by decide +kernel
theorem dX11_rings_38 : decode cX11_rings 38 = .ok (.invokevirtual 172, 3) := by decide +kernel
theorem dX11_rings_41 : decode cX11_rings 41 = .ok (.invokevirtual 273, 3) := by decide +kernel
theorem dX11_rings_44 : decode cX11_rings 44 = .ok (.ireturn, 1) := by decide +kernel
theorem dX11_last_0 : decode cX11_last 0 = .ok (.aload_n 0, 1) := by decide +kernel
theorem dX11_last_1 : decode cX11_last 1 = .ok (.getfield 68, 3) := by decide +kernel
theorem dX11_last_4 : decode cX11_last 4 = .ok (.aload_n 0, 1) := by decide +kernel
theorem dX11_last_5 : decode cX11_last 5 = .ok (.getfield 27, 3) := by decide +kernel
theorem dX11_last_8 : decode cX11_last 8 = .ok (.aload_n 0, 1) := by decide +kernel
theorem dX11_last_9 : decode cX11_last 9 = .ok (.getfield 34, 3) := by decide +kernel
theorem dX11_last_12 : decode cX11_last 12 = .ok (.bipush 60, 2) := by decide +kernel
theorem dX11_last_14 : decode cX11_last 14 = .ok (.invokevirtual 260, 3) := by decide +kernel
theorem dX11_last_17 : decode cX11_last 17 = .ok (.aload_n 0, 1) := by decide +kernel
theorem dX11_last_18 : decode cX11_last 18 = .ok (.iconst (-1), 1) := by decide +kernel
theorem dX11_last_19 : decode cX11_last 19 = .ok (.invokevirtual 276, 3) := by decide +kernel
theorem dX11_last_22 : decode cX11_last 22 = .ok (.ireturn, 1) := by decide +kernel
theorem dX11_soft_0 : decode cX11_soft 0 = .ok (.aload_n 0, 1) := by decide +kernel
theorem dX11_soft_1 : decode cX11_soft 1 = .ok (.getfield 68, 3) := by decide +kernel
theorem dX11_soft_4 : decode cX11_soft 4 = .ok (.aload_n 0, 1) := by decide +kernel
theorem dX11_soft_5 : decode cX11_soft 5 = .ok (.getfield 27, 3) := by decide +kernel
theorem dX11_soft_8 : decode cX11_soft 8 = .ok (.aload_n 0, 1) := by decide +kernel
theorem dX11_soft_9 : decode cX11_soft 9 = .ok (.getfield 34, 3) := by decide +kernel
theorem dX11_soft_12 : decode cX11_soft 12 = .ok (.bipush 60, 2) := by decide +kernel
theorem dX11_soft_14 : decode cX11_soft 14 = .ok (.invokevirtual 260, 3) := by decide +kernel
theorem dX11_soft_17 : decode cX11_soft 17 = .ok (.iconst (-1), 1) := by decide +kernel
theorem dX11_soft_18 : decode cX11_soft 18 = .ok (.istore_n 1, 1) := by decide +kernel
theorem dX11_soft_19 : decode cX11_soft 19 = .ok (.bipush 61, 2) := by decide +kernel
theorem dX11_soft_21 : decode cX11_soft 21 = .ok (.istore_n 2, 1) := by decide +kernel
theorem dX11_soft_22 : decode cX11_soft 22 = .ok (.iconst 0, 1) := by decide +kernel
theorem dX11_soft_23 : decode cX11_soft 23 = .ok (.istore_n 3, 1) := by decide +kernel
theorem dX11_soft_24 : decode cX11_soft 24 = .ok (.iload_n 3, 1) := by decide +kernel
theorem dX11_soft_25 : decode cX11_soft 25 = .ok (.aload_n 0, 1) := by decide +kernel
theorem dX11_soft_26 : decode cX11_soft 26 = .ok (.getfield 27, 3) := by decide +kernel
theorem dX11_soft_29 : decode cX11_soft 29 = .ok (.getfield 140, 3) := by decide +kernel
theorem dX11_soft_32 : decode cX11_soft 32 = .ok (.if_icmp .ge 33, 3) := by decide +kernel
theorem dX11_soft_35 : decode cX11_soft 35 = .ok (.aload_n 0, 1) := by decide +kernel
theorem dX11_soft_36 : decode cX11_soft 36 = .ok (.iload_n 3, 1) := by decide +kernel
theorem dX11_soft_37 : decode cX11_soft 37 = .ok (.invokevirtual 267, 3) := by decide +kernel
theorem dX11_soft_40 : decode cX11_soft 40 = .ok (.istore 4, 2) := by decide +kernel
theorem dX11_soft_42 : decode cX11_soft 42 = .ok (.iload 4, 2) := by decide +kernel
theorem dX11_soft_44 : decode cX11_soft 44 = .ok (.iconst (-1), 1) := by decide +kernel
theorem dX11_soft_45 : decode cX11_soft 45 = .ok (.if_icmp .eq 14, 3) := by decide +kernel
theorem dX11_soft_48 : decode cX11_soft 48 = .ok (.iload 4, 2) := by decide +kernel
theorem dX11_soft_50 : decode cX11_soft 50 = .ok (.iload_n 2, 1) := by decide +kernel
theorem dX11_soft_51 : decode cX11_soft 51 = .ok (.if_icmp .ge 8, 3) := by decide +kernel
theorem dX11_soft_54 : decode cX11_soft 54 = .ok (.iload 4, 2) := by decide +kernel
theorem dX11_soft_56 : decode cX11_soft 56 = .ok (.istore_n 2, 1) := by decide +kernel
theorem dX11_soft_57 : decode cX11_soft 57 = .ok (.iload_n 3, 1) := by decide +kernel
theorem dX11_soft_58 : decode cX11_soft 58 = .ok (.istore_n 1, 1) := by decide +kernel
theorem dX11_soft_59 : decode cX11_soft 59 = .ok (.iinc 3 1, 3) := by decide +kernel
theorem dX11_soft_62 : decode cX11_soft 62 = .ok (.goto (-38), 3) := by decide +kernel
theorem dX11_soft_65 : decode cX11_soft 65 = .ok (.iload_n 1, 1) := by decide +kernel
theorem dX11_soft_66 : decode cX11_soft 66 = .ok (.ireturn, 1) := by decide +kernel
theorem dX11_order_0 : decode cX11_order 0 = .ok (.aload_n 0, 1) := by decide +kernel
theorem dX11_order_1 : decode cX11_order 1 = .ok (.getfield 68, 3) := by decide +kernel
theorem dX11_order_4 : decode cX11_order 4 = .ok (.aload_n 0, 1) := by decide +kernel
theorem dX11_order_5 : decode cX11_order 5 = .ok (.getfield 27, 3) := by decide +kernel
theorem dX11_order_8 : decode cX11_order 8 = .ok (.aload_n 0, 1) := by decide +kernel
theorem dX11_order_9 : decode cX11_order 9 = .ok (.getfield 34, 3) := by decide +kernel
theorem dX11_order_12 : decode cX11_order 12 = .ok (.bipush 60, 2) := by decide +kernel
theorem dX11_order_14 : decode cX11_order 14 = .ok (.invokevirtual 260, 3) := by decide +kernel
theorem dX11_order_17 : decode cX11_order 17 = .ok (.aload_n 0, 1) := by decide +kernel
theorem dX11_order_18 : decode cX11_order 18 = .ok (.invokevirtual 143, 3) := by decide +kernel
theorem dX11_order_21 : decode cX11_order 21 = .ok (.istore_n 2, 1) := by decide +kernel
theorem dX11_order_22 : decode cX11_order 22 = .ok (.iconst 0, 1) := by decide +kernel
theorem dX11_order_23 : decode cX11_order 23 = .ok (.istore_n 3, 1) := by decide +kernel
theorem dX11_order_24 : decode cX11_order 24 = .ok (.iload_n 3, 1) := by decide +kernel
theorem dX11_order_25 : decode cX11_order 25 = .ok (.aload_n 0, 1) := by decide +kernel
theorem dX11_order_26 : decode cX11_order 26 = .ok (.getfield 27, 3) := by decide +kernel
theorem dX11_order_29 : decode cX11_order 29 = .ok (.getfield 140, 3) := by decide +kernel
theorem dX11_order_32 : decode cX11_order 32 = .ok (.if_icmp .ge 30, 3) := by decide +kernel
theorem dX11_order_35 : decode cX11_order 35 = .ok (.iload_n 2, 1) := by decide +kernel
theorem dX11_order_36 : decode cX11_order 36 = .ok (.iload_n 3, 1) := by decide +kernel
theorem dX11_order_37 : decode cX11_order 37 = .ok (.ishr, 1) := by decide +kernel
theorem dX11_order_38 : decode cX11_order 38 = .ok (.iconst 1, 1) := by decide +kernel
theorem dX11_order_39 : decode cX11_order 39 = .ok (.iand, 1) := by decide +kernel
theorem dX11_order_40 : decode cX11_order 40 = .ok (.iconst 1, 1) := by decide +kernel
theorem dX11_order_41 : decode cX11_order 41 = .ok (.if_icmp .ne 15, 3) := by decide +kernel
theorem dX11_order_44 : decode cX11_order 44 = .ok (.aload_n 0, 1) := by decide +kernel
theorem dX11_order_45 : decode cX11_order 45 = .ok (.iload_n 3, 1) := by decide +kernel
theorem dX11_order_46 : decode cX11_order 46 = .ok (.iload_n 2, 1) := by decide +kernel
theorem dX11_order_47 : decode cX11_order 47 = .ok (.invokevirtual 279, 3) := by decide +kernel
theorem dX11_order_50 : decode cX11_order 50 = .ok (.iload_n 1, 1) := by decide +kernel
theorem dX11_order_51 : decode cX11_order 51 = .ok (.if_icmp .ne 5, 3) := by decide +kernel
theorem dX11_order_54 : decode cX11_order 54 = .ok (.iload_n 3, 1) := by decide +kernel
theorem dX11_order_55 : decode cX11_order 55 = .ok (.ireturn, 1) := by decide +kernel
theorem dX11_order_56 : decode cX11_order 56 = .ok (.iinc 3 1, 3) := by decide +kernel
theorem dX11_order_59 : decode cX11_order 59 = .ok (.goto (-35), 3) := by decide +kernel
theorem dX11_order_62 : decode cX11_order 62 = .ok (.new 180, 3) := by decide +kernel
theorem dX11_order_65 : decode cX11_order 65 = .ok (.dup, 1) := by decide +kernel
theorem dX11_order_66 : decode cX11_order 66 = .ok (.ldc_w 282, 3) := by decide +kernel
theorem dX11_order_69 : decode cX11_order 69 = .ok (.invokespecial 184, 3) := by decide +kernel
theorem dX11_order_72 : decode cX11_order 72 = .ok (.athrow, 1) := by decide +kernel
theorem dX11_row_0 : decode cX11_row 0 = .ok (.aload_n 0, 1) := by decide +kernel
theorem dX11_row_1 : decode cX11_row 1 = .ok (.iload_n 1, 1) := by decide +kernel
theorem dX11_row_2 : decode cX11_row 2 = .ok (.invokevirtual 284, 3) := by decide +kernel
theorem dX11_row_5 : decode cX11_row 5 = .ok (.aload_n 0, 1) := by decide +kernel
theorem dX11_row_6 : decode cX11_row 6 = .ok (.getfield 75, 3) := by decide +kernel
theorem dX11_row_9 : decode cX11_row 9 = .ok (.aload_n 0, 1) := by decide +kernel
theorem dX11_row_10 : decode cX11_row 10 = .ok (.getfield 27, 3) := by decide +kernel
theorem dX11_row_13 : decode cX11_row 13 = .ok (.aload_n 0, 1) := by decide +kernel
theorem dX11_row_14 : decode cX11_row 14 = .ok (.getfield 34, 3) := by decide +kernel
theorem dX11_row_17 : decode cX11_row 17 = .ok (.invokevirtual 287, 3) := by decide +kernel
theorem dX11_row_20 : decode cX11_row 20 = .ok (.aload_n 0, 1) := by decide +kernel
theorem dX11_row_21 : decode cX11_row 21 = .ok (.getfield 75, 3) := by decide +kernel
theorem dX11_row_24 : decode cX11_row 24 = .ok (.iload_n 1, 1) := by decide +kernel
theorem dX11_row_25 : decode cX11_row 25 = .ok (.invokevirtual 291, 3) := by decide +kernel
theorem dX11_row_28 : decode cX11_row 28 = .ok (.ireturn, 1) := by decide +kernel
theorem dX11_at_0 : decode cX11_at 0 = .ok (.aload_n 0, 1) := by decide +kernel
theorem dX11_at_1 : decode cX11_at 1 = .ok (.iload_n 1, 1) := by decide +kernel
theorem dX11_at_2 : decode cX11_at 2 = .ok (.invokevirtual 284, 3) := by decide +kernel
theorem dX11_at_5 : decode cX11_at 5 = .ok (.aload_n 0, 1) := by decide +kernel
theorem dX11_at_6 : decode cX11_at 6 = .ok (.getfield 75, 3) := by decide +kernel
theorem dX11_at_9 : decode cX11_at 9 = .ok (.aload_n 0, 1) := by decide +kernel
theorem dX11_at_10 : decode cX11_at 10 = .ok (.getfield 27, 3) := by decide +kernel
theorem dX11_at_13 : decode cX11_at 13 = .ok (.aload_n 0, 1) := by decide +kernel
theorem dX11_at_14 : decode cX11_at 14 = .ok (.getfield 34, 3) := by decide +kernel
theorem dX11_at_17 : decode cX11_at 17 = .ok (.invokevirtual 287, 3) := by decide +kernel
theorem dX11_at_20 : decode cX11_at 20 = .ok (.iload_n 2, 1) := by decide +kernel
theorem dX11_at_21 : decode cX11_at 21 = .ok (.ifCond .lt 14, 3) := by decide +kernel
theorem dX11_at_24 : decode cX11_at 24 = .ok (.iload_n 2, 1) := by decide +kernel
theorem dX11_at_25 : decode cX11_at 25 = .ok (.aload_n 0, 1) := by decide +kernel
theorem dX11_at_26 : decode cX11_at 26 = .ok (.getfield 75, 3) := by decide +kernel
theorem dX11_at_29 : decode cX11_at 29 = .ok (.invokevirtual 294, 3) := by decide +kernel
theorem dX11_at_32 : decode cX11_at 32 = .ok (.if_icmp .lt 14, 3) := by decide +kernel
theorem dX11_at_35 : decode cX11_at 35 = .ok (.new 180, 3) := by decide +kernel
theorem dX11_at_38 : decode cX11_at 38 = .ok (.dup, 1) := by decide +kernel
theorem dX11_at_39 : decode cX11_at 39 = .ok (.ldc_w 297, 3) := by decide +kernel
theorem dX11_at_42 : decode cX11_at 42 = .ok (.invokespecial 184, 3) := by decide +kernel
theorem dX11_at_45 : decode cX11_at 45 = .ok (.athrow, 1) := by decide +kernel
theorem dX11_at_46 : decode cX11_at 46 = .ok (.aload_n 0, 1) := by decide +kernel
theorem dX11_at_47 : decode cX11_at 47 = .ok (.getfield 75, 3) := by decide +kernel
theorem dX11_at_50 : decode cX11_at 50 = .ok (.iload_n 1, 1) := by decide +kernel
theorem dX11_at_51 : decode cX11_at 51 = .ok (.iload_n 2, 1) := by decide +kernel
theorem dX11_at_52 : decode cX11_at 52 = .ok (.invokevirtual 299, 3) := by decide +kernel
theorem dX11_at_55 : decode cX11_at 55 = .ok (.ireturn, 1) := by decide +kernel
theorem dX11_length_0 : decode cX11_length 0 = .ok (.aload_n 0, 1) := by decide +kernel
theorem dX11_length_1 : decode cX11_length 1 = .ok (.getfield 27, 3) := by decide +kernel
theorem dX11_length_4 : decode cX11_length 4 = .ok (.getfield 163, 3) := by decide +kernel
theorem dX11_length_7 : decode cX11_length 7 = .ok (.ifCond .ne 5, 3) := by decide +kernel
theorem dX11_length_10 : decode cX11_length 10 = .ok (.iconst (-1), 1) := by decide +kernel
theorem dX11_length_11 : decode cX11_length 11 = .ok (.ireturn, 1) := by decide +kernel
theorem dX11_length_12 : decode cX11_length 12 = .ok (.aload_n 0, 1) := by decide +kernel
theorem dX11_length_13 : decode cX11_length 13 = .ok (.getfield 75, 3) := by decide +kernel
theorem dX11_length_16 : decode cX11_length 16 = .ok (.aload_n 0, 1) := by decide +kernel
theorem dX11_length_17 : decode cX11_length 17 = .ok (.getfield 27, 3) := by decide +kernel
theorem dX11_length_20 : decode cX11_length 20 = .ok (.aload_n 0, 1) := by decide +kernel
theorem dX11_length_21 : decode cX11_length 21 = .ok (.getfield 34, 3) := by decide +kernel
theorem dX11_length_24 : decode cX11_length 24 = .ok (.invokevirtual 287, 3) := by decide +kernel
theorem dX11_length_27 : decode cX11_length 27 = .ok (.aload_n 0, 1) := by decide +kernel
theorem dX11_length_28 : decode cX11_length 28 = .ok (.getfield 75, 3) := by decide +kernel
theorem dX11_length_31 : decode cX11_length 31 = .ok (.invokevirtual 302, 3) := by decide +kernel
theorem dX11_length_34 : decode cX11_length 34 = .ok (.ireturn, 1) := by decide +kernel
theorem dX11_isTrue_0 : decode cX11_isTrue 0 = .ok (.aload_n 0, 1) := by decide +kernel
theorem dX11_isTrue_1 : decode cX11_isTrue 1 = .ok (.getfield 27, 3) := by decide +kernel
theorem dX11_isTrue_4 : decode cX11_isTrue 4 = .ok (.getfield 163, 3) := by decide +kernel
theorem dX11_isTrue_7 : decode cX11_isTrue 7 = .ok (.ifCond .ne 5, 3) := by decide +kernel
theorem dX11_isTrue_10 : decode cX11_isTrue 10 = .ok (.iconst 1, 1) := by decide +kernel
theorem dX11_isTrue_11 : decode cX11_isTrue 11 = .ok (.ireturn, 1) := by decide +kernel
theorem dX11_isTrue_12 : decode cX11_isTrue 12 = .ok (.aload_n 0, 1) := by decide +kernel
theorem dX11_isTrue_13 : decode cX11_isTrue 13 = .ok (.getfield 75, 3) := by decide +kernel
theorem dX11_isTrue_16 : decode cX11_isTrue 16 = .ok (.aload_n 0, 1) := by decide +kernel
theorem dX11_isTrue_17 : decode cX11_isTrue 17 = .ok (.getfield 27, 3) := by decide +kernel
theorem dX11_isTrue_20 : decode cX11_isTrue 20 = .ok (.aload_n 0, 1) := by decide +kernel
theorem dX11_isTrue_21 : decode cX11_isTrue 21 = .ok (.getfield 34, 3) := by decide +kernel
theorem dX11_isTrue_24 : decode cX11_isTrue 24 = .ok (.invokevirtual 287, 3) := by decide +kernel
theorem dX11_isTrue_27 : decode cX11_isTrue 27 = .ok (.aload_n 0, 1) := by decide +kernel
theorem dX11_isTrue_28 : decode cX11_isTrue 28 = .ok (.getfield 75, 3) := by decide +kernel
theorem dX11_isTrue_31 : decode cX11_isTrue 31 = .ok (.invokevirtual 305, 3) := by decide +kernel
theorem dX11_isTrue_34 : decode cX11_isTrue 34 = .ok (.ifCond .le 7, 3) := by decide +kernel
theorem dX11_isTrue_37 : decode cX11_isTrue 37 = .ok (.iconst 1, 1) := by decide +kernel
theorem dX11_isTrue_38 : decode cX11_isTrue 38 = .ok (.goto 4, 3) := by decide +kernel
theorem dX11_isTrue_41 : decode cX11_isTrue 41 = .ok (.iconst 0, 1) := by decide +kernel
theorem dX11_isTrue_42 : decode cX11_isTrue 42 = .ok (.ireturn, 1) := by decide +kernel
theorem dX11_longer_0 : decode cX11_longer 0 = .ok (.aload_n 0, 1) := by decide +kernel
theorem dX11_longer_1 : decode cX11_longer 1 = .ok (.getfield 27, 3) := by decide +kernel
theorem dX11_longer_4 : decode cX11_longer 4 = .ok (.getfield 163, 3) := by decide +kernel
theorem dX11_longer_7 : decode cX11_longer 7 = .ok (.ifCond .ne 5, 3) := by decide +kernel
theorem dX11_longer_10 : decode cX11_longer 10 = .ok (.iconst (-1), 1) := by decide +kernel
theorem dX11_longer_11 : decode cX11_longer 11 = .ok (.ireturn, 1) := by decide +kernel
theorem dX11_longer_12 : decode cX11_longer 12 = .ok (.aload_n 0, 1) := by decide +kernel
theorem dX11_longer_13 : decode cX11_longer 13 = .ok (.getfield 75, 3) := by decide +kernel
theorem dX11_longer_16 : decode cX11_longer 16 = .ok (.aload_n 0, 1) := by decide +kernel
theorem dX11_longer_17 : decode cX11_longer 17 = .ok (.getfield 27, 3) := by decide +kernel
theorem dX11_longer_20 : decode cX11_longer 20 = .ok (.aload_n 0, 1) := by decide +kernel
theorem dX11_longer_21 : decode cX11_longer 21 = .ok (.getfield 34, 3) := by decide +kernel
theorem dX11_longer_24 : decode cX11_longer 24 = .ok (.invokevirtual 287, 3) := by decide +kernel
theorem dX11_longer_27 : decode cX11_longer 27 = .ok (.aload_n 0, 1) := by decide +kernel
theorem dX11_longer_28 : decode cX11_longer 28 = .ok (.getfield 75, 3) := by decide +kernel
theorem dX11_longer_31 : decode cX11_longer 31 = .ok (.invokevirtual 308, 3) := by decide +kernel
theorem dX11_longer_34 : decode cX11_longer 34 = .ok (.ireturn, 1) := by decide +kernel
theorem dX11_fit_0 : decode cX11_fit 0 = .ok (.iload_n 1, 1) := by decide +kernel
theorem dX11_fit_1 : decode cX11_fit 1 = .ok (.iconst (-1), 1) := by decide +kernel
theorem dX11_fit_2 : decode cX11_fit 2 = .ok (.if_icmp .lt 14, 3) := by decide +kernel
theorem dX11_fit_5 : decode cX11_fit 5 = .ok (.iload_n 1, 1) := by decide +kernel
theorem dX11_fit_6 : decode cX11_fit 6 = .ok (.aload_n 0, 1) := by decide +kernel
theorem dX11_fit_7 : decode cX11_fit 7 = .ok (.getfield 27, 3) := by decide +kernel
theorem dX11_fit_10 : decode cX11_fit 10 = .ok (.getfield 160, 3) := by decide +kernel
theorem dX11_fit_13 : decode cX11_fit 13 = .ok (.if_icmp .lt 13, 3) := by decide +kernel
theorem dX11_fit_16 : decode cX11_fit 16 = .ok (.new 180, 3) := by decide +kernel
theorem dX11_fit_19 : decode cX11_fit 19 = .ok (.dup, 1) := by decide +kernel
theorem dX11_fit_20 : decode cX11_fit 20 = .ok (.ldc 218, 2) := by decide +kernel
theorem dX11_fit_22 : decode cX11_fit 22 = .ok (.invokespecial 184, 3) := by decide +kernel
theorem dX11_fit_25 : decode cX11_fit 25 = .ok (.athrow, 1) := by decide +kernel
theorem dX11_fit_26 : decode cX11_fit 26 = .ok (.aload_n 0, 1) := by decide +kernel
theorem dX11_fit_27 : decode cX11_fit 27 = .ok (.getfield 82, 3) := by decide +kernel
theorem dX11_fit_30 : decode cX11_fit 30 = .ok (.aload_n 0, 1) := by decide +kernel
theorem dX11_fit_31 : decode cX11_fit 31 = .ok (.getfield 27, 3) := by decide +kernel
theorem dX11_fit_34 : decode cX11_fit 34 = .ok (.aload_n 0, 1) := by decide +kernel
theorem dX11_fit_35 : decode cX11_fit 35 = .ok (.getfield 34, 3) := by decide +kernel
theorem dX11_fit_38 : decode cX11_fit 38 = .ok (.invokevirtual 311, 3) := by decide +kernel
theorem dX11_fit_41 : decode cX11_fit 41 = .ok (.iload_n 1, 1) := by decide +kernel
theorem dX11_fit_42 : decode cX11_fit 42 = .ok (.iconst (-1), 1) := by decide +kernel
theorem dX11_fit_43 : decode cX11_fit 43 = .ok (.if_icmp .ne 13, 3) := by decide +kernel
theorem dX11_fit_46 : decode cX11_fit 46 = .ok (.aload_n 0, 1) := by decide +kernel
theorem dX11_fit_47 : decode cX11_fit 47 = .ok (.getfield 82, 3) := by decide +kernel
theorem dX11_fit_50 : decode cX11_fit 50 = .ok (.invokevirtual 314, 3) := by decide +kernel
theorem dX11_fit_53 : decode cX11_fit 53 = .ok (.goto 11, 3) := by decide +kernel
theorem dX11_fit_56 : decode cX11_fit 56 = .ok (.aload_n 0, 1) := by decide +kernel
theorem dX11_fit_57 : decode cX11_fit 57 = .ok (.getfield 82, 3) := by decide +kernel
theorem dX11_fit_60 : decode cX11_fit 60 = .ok (.iload_n 1, 1) := by decide +kernel
theorem dX11_fit_61 : decode cX11_fit 61 = .ok (.invokevirtual 317, 3) := by decide +kernel
theorem dX11_fit_64 : decode cX11_fit 64 = .ok (.ireturn, 1) := by decide +kernel
theorem dX11_keepers_0 : decode cX11_keepers 0 = .ok (.aload_n 0, 1) := by decide +kernel
theorem dX11_keepers_1 : decode cX11_keepers 1 = .ok (.invokevirtual 166, 3) := by decide +kernel
theorem dX11_keepers_4 : decode cX11_keepers 4 = .ok (.istore_n 1, 1) := by decide +kernel
theorem dX11_keepers_5 : decode cX11_keepers 5 = .ok (.aload_n 0, 1) := by decide +kernel
theorem dX11_keepers_6 : decode cX11_keepers 6 = .ok (.getfield 27, 3) := by decide +kernel
theorem dX11_keepers_9 : decode cX11_keepers 9 = .ok (.getfield 320, 3) := by decide +kernel
theorem dX11_keepers_12 : decode cX11_keepers 12 = .ok (.istore_n 2, 1) := by decide +kernel
theorem dX11_keepers_13 : decode cX11_keepers 13 = .ok (.iconst 0, 1) := by decide +kernel
theorem dX11_keepers_14 : decode cX11_keepers 14 = .ok (.istore_n 3, 1) := by decide +kernel
theorem dX11_keepers_15 : decode cX11_keepers 15 = .ok (.iconst 0, 1) := by decide +kernel
theorem dX11_keepers_16 : decode cX11_keepers 16 = .ok (.istore 4, 2) := by decide +kernel
theorem dX11_keepers_18 : decode cX11_keepers 18 = .ok (.iload 4, 2) := by decide +kernel
theorem dX11_keepers_20 : decode cX11_keepers 20 = .ok (.aload_n 0, 1) := by decide +kernel
theorem dX11_keepers_21 : decode cX11_keepers 21 = .ok (.getfield 27, 3) := by decide +kernel
theorem dX11_keepers_24 : decode cX11_keepers 24 = .ok (.getfield 140, 3) := by decide +kernel
theorem dX11_keepers_27 : decode cX11_keepers 27 = .ok (.if_icmp .ge 46, 3) := by decide +kernel
theorem dX11_keepers_30 : decode cX11_keepers 30 = .ok (.aload_n 0, 1) := by decide +kernel
theorem dX11_keepers_31 : decode cX11_keepers 31 = .ok (.getfield 68, 3) := by decide +kernel
theorem dX11_keepers_34 : decode cX11_keepers 34 = .ok (.iconst 0, 1) := by decide +kernel
theorem dX11_keepers_35 : decode cX11_keepers 35 = .ok (.iload_n 1, 1) := by decide +kernel
theorem dX11_keepers_36 : decode cX11_keepers 36 = .ok (.iconst 1, 1) := by decide +kernel
theorem dX11_keepers_37 : decode cX11_keepers 37 = .ok (.iload 4, 2) := by decide +kernel
theorem dX11_keepers_39 : decode cX11_keepers 39 = .ok (.ishl, 1) := by decide +kernel
theorem dX11_keepers_40 : decode cX11_keepers 40 = .ok (.iand, 1) := by decide +kernel
theorem dX11_keepers_41 : decode cX11_keepers 41 = .ok (.invokevirtual 172, 3) := by decide +kernel
theorem dX11_keepers_44 : decode cX11_keepers 44 = .ok (.istore 5, 2) := by decide +kernel
theorem dX11_keepers_46 : decode cX11_keepers 46 = .ok (.iload_n 2, 1) := by decide +kernel
theorem dX11_keepers_47 : decode cX11_keepers 47 = .ok (.iload 5, 2) := by decide +kernel
theorem dX11_keepers_49 : decode cX11_keepers 49 = .ok (.iand, 1) := by decide +kernel
theorem dX11_keepers_50 : decode cX11_keepers 50 = .ok (.ifCond .eq 17, 3) := by decide +kernel
theorem dX11_keepers_53 : decode cX11_keepers 53 = .ok (.iload_n 2, 1) := by decide +kernel
theorem dX11_keepers_54 : decode cX11_keepers 54 = .ok (.iload 5, 2) := by decide +kernel
theorem dX11_keepers_56 : decode cX11_keepers 56 = .ok (.iconst (-1), 1) := by decide +kernel
theorem dX11_keepers_57 : decode cX11_keepers 57 = .ok (.ixor, 1) := by decide +kernel
theorem dX11_keepers_58 : decode cX11_keepers 58 = .ok (.iand, 1) := by decide +kernel
theorem dX11_keepers_59 : decode cX11_keepers 59 = .ok (.istore_n 2, 1) := by decide +kernel
theorem dX11_keepers_60 : decode cX11_keepers 60 = .ok (.iload_n 3, 1) := by decide +kernel
theorem dX11_keepers_61 : decode cX11_keepers 61 = .ok (.iconst 1, 1) := by decide +kernel
theorem dX11_keepers_62 : decode cX11_keepers 62 = .ok (.iload 4, 2) := by decide +kernel
theorem dX11_keepers_64 : decode cX11_keepers 64 = .ok (.ishl, 1) := by decide +kernel
theorem dX11_keepers_65 : decode cX11_keepers 65 = .ok (.ior, 1) := by decide +kernel
theorem dX11_keepers_66 : decode cX11_keepers 66 = .ok (.istore_n 3, 1) := by decide +kernel
theorem dX11_keepers_67 : decode cX11_keepers 67 = .ok (.iinc 4 1, 3) := by decide +kernel
theorem dX11_keepers_70 : decode cX11_keepers 70 = .ok (.goto (-52), 3) := by decide +kernel
theorem dX11_keepers_73 : decode cX11_keepers 73 = .ok (.iload_n 2, 1) := by decide +kernel
theorem dX11_keepers_74 : decode cX11_keepers 74 = .ok (.ifCond .ne 7, 3) := by decide +kernel
theorem dX11_keepers_77 : decode cX11_keepers 77 = .ok (.iload_n 3, 1) := by decide +kernel
theorem dX11_keepers_78 : decode cX11_keepers 78 = .ok (.goto 4, 3) := by decide +kernel
theorem dX11_keepers_81 : decode cX11_keepers 81 = .ok (.iconst (-1), 1) := by decide +kernel
theorem dX11_keepers_82 : decode cX11_keepers 82 = .ok (.ireturn, 1) := by decide +kernel
theorem dX11_earliest_0 : decode cX11_earliest 0 = .ok (.iconst 0, 1) := by decide +kernel
theorem dX11_earliest_1 : decode cX11_earliest 1 = .ok (.istore_n 1, 1) := by decide +kernel
theorem dX11_earliest_2 : decode cX11_earliest 2 = .ok (.iload_n 1, 1) := by decide +kernel
theorem dX11_earliest_3 : decode cX11_earliest 3 = .ok (.bipush 60, 2) := by decide +kernel
theorem dX11_earliest_5 : decode cX11_earliest 5 = .ok (.if_icmp .gt 53, 3) := by decide +kernel
theorem dX11_earliest_8 : decode cX11_earliest 8 = .ok (.aload_n 0, 1) := by decide +kernel
theorem dX11_earliest_9 : decode cX11_earliest 9 = .ok (.getfield 68, 3) := by decide +kernel
theorem dX11_earliest_12 : decode cX11_earliest 12 = .ok (.aload_n 0, 1) := by decide +kernel
theorem dX11_earliest_13 : decode cX11_earliest 13 = .ok (.getfield 27, 3) := by decide +kernel
theorem dX11_earliest_16 : decode cX11_earliest 16 = .ok (.aload_n 0, 1) := by decide +kernel
theorem dX11_earliest_17 : decode cX11_earliest 17 = .ok (.getfield 34, 3) := by decide +kernel
theorem dX11_earliest_20 : decode cX11_earliest 20 = .ok (.iload_n 1, 1) := by decide +kernel
theorem dX11_earliest_21 : decode cX11_earliest 21 = .ok (.invokevirtual 260, 3) := by decide +kernel
theorem dX11_earliest_24 : decode cX11_earliest 24 = .ok (.aload_n 0, 1) := by decide +kernel
theorem dX11_earliest_25 : decode cX11_earliest 25 = .ok (.getfield 27, 3) := by decide +kernel
theorem dX11_earliest_28 : decode cX11_earliest 28 = .ok (.aload_n 0, 1) := by decide +kernel
theorem dX11_earliest_29 : decode cX11_earliest 29 = .ok (.getfield 68, 3) := by decide +kernel
theorem dX11_earliest_32 : decode cX11_earliest 32 = .ok (.iload_n 1, 1) := by decide +kernel
theorem dX11_earliest_33 : decode cX11_earliest 33 = .ok (.aload_n 0, 1) := by decide +kernel
theorem dX11_earliest_34 : decode cX11_earliest 34 = .ok (.getfield 68, 3) := by decide +kernel
theorem dX11_earliest_37 : decode cX11_earliest 37 = .ok (.iload_n 1, 1) := by decide +kernel
theorem dX11_earliest_38 : decode cX11_earliest 38 = .ok (.invokevirtual 323, 3) := by decide +kernel
theorem dX11_earliest_41 : decode cX11_earliest 41 = .ok (.invokevirtual 172, 3) := by decide +kernel
theorem dX11_earliest_44 : decode cX11_earliest 44 = .ok (.invokevirtual 273, 3) := by decide +kernel
theorem dX11_earliest_47 : decode cX11_earliest 47 = .ok (.ifCond .eq 5, 3) := by decide +kernel
theorem dX11_earliest_50 : decode cX11_earliest 50 = .ok (.iload_n 1, 1) := by decide +kernel
theorem dX11_earliest_51 : decode cX11_earliest 51 = .ok (.ireturn, 1) := by decide +kernel
theorem dX11_earliest_52 : decode cX11_earliest 52 = .ok (.iinc 1 1, 3) := by decide +kernel
theorem dX11_earliest_55 : decode cX11_earliest 55 = .ok (.goto (-53), 3) := by decide +kernel
theorem dX11_earliest_58 : decode cX11_earliest 58 = .ok (.iconst (-1), 1) := by decide +kernel
theorem dX11_earliest_59 : decode cX11_earliest 59 = .ok (.ireturn, 1) := by decide +kernel
theorem dX11_hear_0 : decode cX11_hear 0 = .ok (.iload_n 1, 1) := by decide +kernel
theorem dX11_hear_1 : decode cX11_hear 1 = .ok (.ifCond .lt 29, 3) := by decide +kernel
theorem dX11_hear_4 : decode cX11_hear 4 = .ok (.iload_n 1, 1) := by decide +kernel
theorem dX11_hear_5 : decode cX11_hear 5 = .ok (.bipush 30, 2) := by decide +kernel
theorem dX11_hear_7 : decode cX11_hear 7 = .ok (.if_icmp .gt 23, 3) := by decide +kernel
theorem dX11_hear_10 : decode cX11_hear 10 = .ok (.iload_n 2, 1) := by decide +kernel
theorem dX11_hear_11 : decode cX11_hear 11 = .ok (.invokestatic 326, 3) := by decide +kernel
theorem dX11_hear_14 : decode cX11_hear 14 = .ok (.ifCond .eq 16, 3) := by decide +kernel
theorem dX11_hear_17 : decode cX11_hear 17 = .ok (.aload_n 0, 1) := by decide +kernel
theorem dX11_hear_18 : decode cX11_hear 18 = .ok (.getfield 48, 3) := by decide +kernel
theorem dX11_hear_21 : decode cX11_hear 21 = .ok (.iload_n 1, 1) := by decide +kernel
theorem dX11_hear_22 : decode cX11_hear 22 = .ok (.iload_n 2, 1) := by decide +kernel
theorem dX11_hear_23 : decode cX11_hear 23 = .ok (.iload_n 3, 1) := by decide +kernel
theorem dX11_hear_24 : decode cX11_hear 24 = .ok (.invokevirtual 329, 3) := by decide +kernel
theorem dX11_hear_27 : decode cX11_hear 27 = .ok (.ifCond .ne 15, 3) := by decide +kernel
theorem dX11_hear_30 : decode cX11_hear 30 = .ok (.aload_n 0, 1) := by decide +kernel
theorem dX11_hear_31 : decode cX11_hear 31 = .ok (.getfield 20, 3) := by decide +kernel
theorem dX11_hear_34 : decode cX11_hear 34 = .ok (.iconst 2, 1) := by decide +kernel
theorem dX11_hear_35 : decode cX11_hear 35 = .ok (.dup2, 1) := by decide +kernel
theorem dX11_hear_36 : decode cX11_hear 36 = .ok (.iaload, 1) := by decide +kernel
theorem dX11_hear_37 : decode cX11_hear 37 = .ok (.iconst 1, 1) := by decide +kernel
theorem dX11_hear_38 : decode cX11_hear 38 = .ok (.iadd, 1) := by decide +kernel
theorem dX11_hear_39 : decode cX11_hear 39 = .ok (.iastore, 1) := by decide +kernel
theorem dX11_hear_40 : decode cX11_hear 40 = .ok (.iconst (-1), 1) := by decide +kernel
theorem dX11_hear_41 : decode cX11_hear 41 = .ok (.ireturn, 1) := by decide +kernel
theorem dX11_hear_42 : decode cX11_hear 42 = .ok (.aload_n 0, 1) := by decide +kernel
theorem dX11_hear_43 : decode cX11_hear 43 = .ok (.getfield 48, 3) := by decide +kernel
theorem dX11_hear_46 : decode cX11_hear 46 = .ok (.invokevirtual 179, 3) := by decide +kernel
theorem dX11_hear_49 : decode cX11_hear 49 = .ok (.ireturn, 1) := by decide +kernel
theorem dX11_forget_0 : decode cX11_forget 0 = .ok (.aload_n 0, 1) := by decide +kernel
theorem dX11_forget_1 : decode cX11_forget 1 = .ok (.getfield 48, 3) := by decide +kernel
theorem dX11_forget_4 : decode cX11_forget 4 = .ok (.invokevirtual 136, 3) := by decide +kernel
theorem dX11_forget_7 : decode cX11_forget 7 = .ok (.return_, 1) := by decide +kernel
theorem dX11_eaten_0 : decode cX11_eaten 0 = .ok (.iload_n 1, 1) := by decide +kernel
theorem dX11_eaten_1 : decode cX11_eaten 1 = .ok (.ifCond .lt 8, 3) := by decide +kernel
theorem dX11_eaten_4 : decode cX11_eaten 4 = .ok (.iload_n 1, 1) := by decide +kernel
theorem dX11_eaten_5 : decode cX11_eaten 5 = .ok (.iconst 2, 1) := by decide +kernel
theorem dX11_eaten_6 : decode cX11_eaten 6 = .ok (.if_icmp .le 14, 3) := by decide +kernel
theorem dX11_eaten_9 : decode cX11_eaten 9 = .ok (.new 180, 3) := by decide +kernel
theorem dX11_eaten_12 : decode cX11_eaten 12 = .ok (.dup, 1) := by decide +kernel
theorem dX11_eaten_13 : decode cX11_eaten 13 = .ok (.ldc_w 333, 3) := by decide +kernel
theorem dX11_eaten_16 : decode cX11_eaten 16 = .ok (.invokespecial 184, 3) := by decide +kernel
theorem dX11_eaten_19 : decode cX11_eaten 19 = .ok (.athrow, 1) := by decide +kernel
theorem dX11_eaten_20 : decode cX11_eaten 20 = .ok (.aload_n 0, 1) := by decide +kernel
theorem dX11_eaten_21 : decode cX11_eaten 21 = .ok (.getfield 68, 3) := by decide +kernel
theorem dX11_eaten_24 : decode cX11_eaten 24 = .ok (.aload_n 0, 1) := by decide +kernel
theorem dX11_eaten_25 : decode cX11_eaten 25 = .ok (.getfield 27, 3) := by decide +kernel
theorem dX11_eaten_28 : decode cX11_eaten 28 = .ok (.aload_n 0, 1) := by decide +kernel
theorem dX11_eaten_29 : decode cX11_eaten 29 = .ok (.getfield 34, 3) := by decide +kernel
theorem dX11_eaten_32 : decode cX11_eaten 32 = .ok (.bipush 30, 2) := by decide +kernel
theorem dX11_eaten_34 : decode cX11_eaten 34 = .ok (.invokevirtual 260, 3) := by decide +kernel
theorem dX11_eaten_37 : decode cX11_eaten 37 = .ok (.iload_n 1, 1) := by decide +kernel
theorem dX11_eaten_38 : decode cX11_eaten 38 = .ok (.iconst 2, 1) := by decide +kernel
theorem dX11_eaten_39 : decode cX11_eaten 39 = .ok (.if_icmp .ne 29, 3) := by decide +kernel
theorem dX11_eaten_42 : decode cX11_eaten 42 = .ok (.aload_n 0, 1) := by decide +kernel
theorem dX11_eaten_43 : decode cX11_eaten 43 = .ok (.getfield 89, 3) := by decide +kernel
theorem dX11_eaten_46 : decode cX11_eaten 46 = .ok (.aload_n 0, 1) := by decide +kernel
theorem dX11_eaten_47 : decode cX11_eaten 47 = .ok (.getfield 68, 3) := by decide +kernel
theorem dX11_eaten_50 : decode cX11_eaten 50 = .ok (.aload_n 0, 1) := by decide +kernel
theorem dX11_eaten_51 : decode cX11_eaten 51 = .ok (.getfield 48, 3) := by decide +kernel
theorem dX11_eaten_54 : decode cX11_eaten 54 = .ok (.iconst 0, 1) := by decide +kernel
theorem dX11_eaten_55 : decode cX11_eaten 55 = .ok (.iconst 0, 1) := by decide +kernel
theorem dX11_eaten_56 : decode cX11_eaten 56 = .ok (.invokevirtual 335, 3) := by decide +kernel
theorem dX11_eaten_59 : decode cX11_eaten 59 = .ok (.ifCond .eq 7, 3) := by decide +kernel
theorem dX11_eaten_62 : decode cX11_eaten 62 = .ok (.iconst 1, 1) := by decide +kernel
theorem dX11_eaten_63 : decode cX11_eaten 63 = .ok (.goto 4, 3) := by decide +kernel
theorem dX11_eaten_66 : decode cX11_eaten 66 = .ok (.iconst 0, 1) := by decide +kernel
theorem dX11_eaten_67 : decode cX11_eaten 67 = .ok (.ireturn, 1) := by decide +kernel
theorem dX11_eaten_68 : decode cX11_eaten 68 = .ok (.aload_n 0, 1) := by decide +kernel
theorem dX11_eaten_69 : decode cX11_eaten 69 = .ok (.getfield 89, 3) := by decide +kernel
theorem dX11_eaten_72 : decode cX11_eaten 72 = .ok (.aload_n 0, 1) := by decide +kernel
theorem dX11_eaten_73 : decode cX11_eaten 73 = .ok (.getfield 68, 3) := by decide +kernel
theorem dX11_eaten_76 : decode cX11_eaten 76 = .ok (.aload_n 0, 1) := by decide +kernel
theorem dX11_eaten_77 : decode cX11_eaten 77 = .ok (.getfield 48, 3) := by decide +kernel
theorem dX11_eaten_80 : decode cX11_eaten 80 = .ok (.aload_n 0, 1) := by decide +kernel
theorem dX11_eaten_81 : decode cX11_eaten 81 = .ok (.getfield 27, 3) := by decide +kernel
theorem dX11_eaten_84 : decode cX11_eaten 84 = .ok (.getfield 140, 3) := by decide +kernel
theorem dX11_eaten_87 : decode cX11_eaten 87 = .ok (.aload_n 0, 1) := by decide +kernel
theorem dX11_eaten_88 : decode cX11_eaten 88 = .ok (.bipush (-2), 2) := by decide +kernel
theorem dX11_eaten_90 : decode cX11_eaten 90 = .ok (.invokevirtual 169, 3) := by decide +kernel
theorem dX11_eaten_93 : decode cX11_eaten 93 = .ok (.invokevirtual 339, 3) := by decide +kernel
theorem dX11_eaten_96 : decode cX11_eaten 96 = .ok (.iload_n 1, 1) := by decide +kernel
theorem dX11_eaten_97 : decode cX11_eaten 97 = .ok (.ifCond .ne 13, 3) := by decide +kernel
theorem dX11_eaten_100 : decode cX11_eaten 100 = .ok (.aload_n 0, 1) := by decide +kernel
theorem dX11_eaten_101 : decode cX11_eaten 101 = .ok (.getfield 89, 3) := by decide +kernel
theorem dX11_eaten_104 : decode cX11_eaten 104 = .ok (.invokevirtual 343, 3) := by decide +kernel
theorem dX11_eaten_107 : decode cX11_eaten 107 = .ok (.goto 10, 3) := by decide +kernel
theorem dX11_eaten_110 : decode cX11_eaten 110 = .ok (.aload_n 0, 1) := by decide +kernel
theorem dX11_eaten_111 : decode cX11_eaten 111 = .ok (.getfield 89, 3) := by decide +kernel
theorem dX11_eaten_114 : decode cX11_eaten 114 = .ok (.invokevirtual 344, 3) := by decide +kernel
theorem dX11_eaten_117 : decode cX11_eaten 117 = .ok (.ireturn, 1) := by decide +kernel
theorem dX11_next_0 : decode cX11_next 0 = .ok (.aload_n 0, 1) := by decide +kernel
theorem dX11_next_1 : decode cX11_next 1 = .ok (.iload_n 1, 1) := by decide +kernel
theorem dX11_next_2 : decode cX11_next 2 = .ok (.invokevirtual 347, 3) := by decide +kernel
theorem dX11_next_5 : decode cX11_next 5 = .ok (.aload_n 0, 1) := by decide +kernel
theorem dX11_next_6 : decode cX11_next 6 = .ok (.getfield 68, 3) := by decide +kernel
theorem dX11_next_9 : decode cX11_next 9 = .ok (.aload_n 0, 1) := by decide +kernel
theorem dX11_next_10 : decode cX11_next 10 = .ok (.getfield 27, 3) := by decide +kernel
theorem dX11_next_13 : decode cX11_next 13 = .ok (.aload_n 0, 1) := by decide +kernel
theorem dX11_next_14 : decode cX11_next 14 = .ok (.getfield 34, 3) := by decide +kernel
theorem dX11_next_17 : decode cX11_next 17 = .ok (.bipush 30, 2) := by decide +kernel
theorem dX11_next_19 : decode cX11_next 19 = .ok (.invokevirtual 260, 3) := by decide +kernel
theorem dX11_next_22 : decode cX11_next 22 = .ok (.aload_n 0, 1) := by decide +kernel
theorem dX11_next_23 : decode cX11_next 23 = .ok (.getfield 89, 3) := by decide +kernel
theorem dX11_next_26 : decode cX11_next 26 = .ok (.aload_n 0, 1) := by decide +kernel
theorem dX11_next_27 : decode cX11_next 27 = .ok (.getfield 68, 3) := by decide +kernel
theorem dX11_next_30 : decode cX11_next 30 = .ok (.aload_n 0, 1) := by decide +kernel
theorem dX11_next_31 : decode cX11_next 31 = .ok (.getfield 48, 3) := by decide +kernel
theorem dX11_next_34 : decode cX11_next 34 = .ok (.aload_n 0, 1) := by decide +kernel
theorem dX11_next_35 : decode cX11_next 35 = .ok (.getfield 27, 3) := by decide +kernel
theorem dX11_next_38 : decode cX11_next 38 = .ok (.getfield 140, 3) := by decide +kernel
theorem dX11_next_41 : decode cX11_next 41 = .ok (.aload_n 0, 1) := by decide +kernel
theorem dX11_next_42 : decode cX11_next 42 = .ok (.bipush (-2), 2) := by decide +kernel
theorem dX11_next_44 : decode cX11_next 44 = .ok (.invokevirtual 169, 3) := by decide +kernel
theorem dX11_next_47 : decode cX11_next 47 = .ok (.invokevirtual 339, 3) := by decide +kernel
theorem dX11_next_50 : decode cX11_next 50 = .ok (.aload_n 0, 1) := by decide +kernel
theorem dX11_next_51 : decode cX11_next 51 = .ok (.getfield 89, 3) := by decide +kernel
theorem dX11_next_54 : decode cX11_next 54 = .ok (.aload_n 0, 1) := by decide +kernel
theorem dX11_next_55 : decode cX11_next 55 = .ok (.getfield 68, 3) := by decide +kernel
theorem dX11_next_58 : decode cX11_next 58 = .ok (.invokevirtual 350, 3) := by decide +kernel
theorem dX11_next_61 : decode cX11_next 61 = .ok (.iload_n 1, 1) := by decide +kernel
theorem dX11_next_62 : decode cX11_next 62 = .ok (.ifCond .ne 13, 3) := by decide +kernel
theorem dX11_next_65 : decode cX11_next 65 = .ok (.aload_n 0, 1) := by decide +kernel
theorem dX11_next_66 : decode cX11_next 66 = .ok (.getfield 89, 3) := by decide +kernel
theorem dX11_next_69 : decode cX11_next 69 = .ok (.invokevirtual 354, 3) := by decide +kernel
theorem dX11_next_72 : decode cX11_next 72 = .ok (.goto 10, 3) := by decide +kernel
theorem dX11_next_75 : decode cX11_next 75 = .ok (.aload_n 0, 1) := by decide +kernel
theorem dX11_next_76 : decode cX11_next 76 = .ok (.getfield 89, 3) := by decide +kernel
theorem dX11_next_79 : decode cX11_next 79 = .ok (.invokevirtual 357, 3) := by decide +kernel
theorem dX11_next_82 : decode cX11_next 82 = .ok (.ireturn, 1) := by decide +kernel
theorem dX11_game_0 : decode cX11_game 0 = .ok (.aload_n 0, 1) := by decide +kernel
theorem dX11_game_1 : decode cX11_game 1 = .ok (.iload_n 1, 1) := by decide +kernel
theorem dX11_game_2 : decode cX11_game 2 = .ok (.invokevirtual 185, 3) := by decide +kernel
theorem dX11_game_5 : decode cX11_game 5 = .ok (.aload_n 0, 1) := by decide +kernel
theorem dX11_game_6 : decode cX11_game 6 = .ok (.iload_n 2, 1) := by decide +kernel
theorem dX11_game_7 : decode cX11_game 7 = .ok (.invokevirtual 185, 3) := by decide +kernel
theorem dX11_game_10 : decode cX11_game 10 = .ok (.aload_n 0, 1) := by decide +kernel
theorem dX11_game_11 : decode cX11_game 11 = .ok (.iload_n 3, 1) := by decide +kernel
theorem dX11_game_12 : decode cX11_game 12 = .ok (.invokevirtual 347, 3) := by decide +kernel
theorem dX11_game_15 : decode cX11_game 15 = .ok (.iload_n 1, 1) := by decide +kernel
theorem dX11_game_16 : decode cX11_game 16 = .ok (.iload_n 2, 1) := by decide +kernel
theorem dX11_game_17 : decode cX11_game 17 = .ok (.if_icmp .eq 25, 3) := by decide +kernel
theorem dX11_game_20 : decode cX11_game 20 = .ok (.aload_n 0, 1) := by decide +kernel
theorem dX11_game_21 : decode cX11_game 21 = .ok (.getfield 34, 3) := by decide +kernel
theorem dX11_game_24 : decode cX11_game 24 = .ok (.iload_n 1, 1) := by decide +kernel
theorem dX11_game_25 : decode cX11_game 25 = .ok (.invokevirtual 204, 3) := by decide +kernel
theorem dX11_game_28 : decode cX11_game 28 = .ok (.ifCond .lt 14, 3) := by decide +kernel
theorem dX11_game_31 : decode cX11_game 31 = .ok (.aload_n 0, 1) := by decide +kernel
theorem dX11_game_32 : decode cX11_game 32 = .ok (.getfield 34, 3) := by decide +kernel
theorem dX11_game_35 : decode cX11_game 35 = .ok (.iload_n 2, 1) := by decide +kernel
theorem dX11_game_36 : decode cX11_game 36 = .ok (.invokevirtual 204, 3) := by decide +kernel
theorem dX11_game_39 : decode cX11_game 39 = .ok (.ifCond .ge 14, 3) := by decide +kernel
theorem dX11_game_42 : decode cX11_game 42 = .ok (.new 108, 3) := by decide +kernel
theorem dX11_game_45 : decode cX11_game 45 = .ok (.dup, 1) := by decide +kernel
theorem dX11_game_46 : decode cX11_game 46 = .ok (.ldc_w 360, 3) := by decide +kernel
theorem dX11_game_49 : decode cX11_game 49 = .ok (.invokespecial 112, 3) := by decide +kernel
theorem dX11_game_52 : decode cX11_game 52 = .ok (.athrow, 1) := by decide +kernel
theorem dX11_game_53 : decode cX11_game 53 = .ok (.iconst 0, 1) := by decide +kernel
theorem dX11_game_54 : decode cX11_game 54 = .ok (.istore 4, 2) := by decide +kernel
theorem dX11_game_56 : decode cX11_game 56 = .ok (.iconst (-1), 1) := by decide +kernel
theorem dX11_game_57 : decode cX11_game 57 = .ok (.istore 5, 2) := by decide +kernel
theorem dX11_game_59 : decode cX11_game 59 = .ok (.aload_n 0, 1) := by decide +kernel
theorem dX11_game_60 : decode cX11_game 60 = .ok (.iload_n 1, 1) := by decide +kernel
theorem dX11_game_61 : decode cX11_game 61 = .ok (.invokevirtual 362, 3) := by decide +kernel
theorem dX11_game_64 : decode cX11_game 64 = .ok (.istore 6, 2) := by decide +kernel
theorem dX11_game_66 : decode cX11_game 66 = .ok (.aload_n 0, 1) := by decide +kernel
theorem dX11_game_67 : decode cX11_game 67 = .ok (.iload_n 2, 1) := by decide +kernel
theorem dX11_game_68 : decode cX11_game 68 = .ok (.invokevirtual 362, 3) := by decide +kernel
theorem dX11_game_71 : decode cX11_game 71 = .ok (.istore 7, 2) := by decide +kernel
theorem dX11_game_73 : decode cX11_game 73 = .ok (.iconst 0, 1) := by decide +kernel
theorem dX11_game_74 : decode cX11_game 74 = .ok (.istore 8, 2) := by decide +kernel
theorem dX11_game_76 : decode cX11_game 76 = .ok (.iload 8, 2) := by decide +kernel
theorem dX11_game_78 : decode cX11_game 78 = .ok (.iload 6, 2) := by decide +kernel
theorem dX11_game_80 : decode cX11_game 80 = .ok (.if_icmp .gt 74, 3) := by decide +kernel
theorem dX11_game_83 : decode cX11_game 83 = .ok (.iconst 0, 1) := by decide +kernel
theorem dX11_game_84 : decode cX11_game 84 = .ok (.istore 9, 2) := by decide +kernel
theorem dX11_game_86 : decode cX11_game 86 = .ok (.iload 9, 2) := by decide +kernel
theorem dX11_game_88 : decode cX11_game 88 = .ok (.iload 7, 2) := by decide +kernel
theorem dX11_game_90 : decode cX11_game 90 = .ok (.if_icmp .gt 58, 3) := by decide +kernel
theorem dX11_game_93 : decode cX11_game 93 = .ok (.aload_n 0, 1) := by decide +kernel
theorem dX11_game_94 : decode cX11_game 94 = .ok (.iload_n 1, 1) := by decide +kernel
theorem dX11_game_95 : decode cX11_game 95 = .ok (.iload 8, 2) := by decide +kernel
theorem dX11_game_97 : decode cX11_game 97 = .ok (.iload_n 2, 1) := by decide +kernel
theorem dX11_game_98 : decode cX11_game 98 = .ok (.iload 9, 2) := by decide +kernel
theorem dX11_game_100 : decode cX11_game 100 = .ok (.invokevirtual 365, 3) := by decide +kernel
theorem dX11_game_103 : decode cX11_game 103 = .ok (.ifCond .eq 39, 3) := by decide +kernel
theorem dX11_game_106 : decode cX11_game 106 = .ok (.aload_n 0, 1) := by decide +kernel
theorem dX11_game_107 : decode cX11_game 107 = .ok (.iload_n 2, 1) := by decide +kernel
theorem dX11_game_108 : decode cX11_game 108 = .ok (.iload 9, 2) := by decide +kernel
theorem dX11_game_110 : decode cX11_game 110 = .ok (.iload_n 1, 1) := by decide +kernel
theorem dX11_game_111 : decode cX11_game 111 = .ok (.iload 8, 2) := by decide +kernel
theorem dX11_game_113 : decode cX11_game 113 = .ok (.invokevirtual 365, 3) := by decide +kernel
theorem dX11_game_116 : decode cX11_game 116 = .ok (.ifCond .eq 26, 3) := by decide +kernel
theorem dX11_game_119 : decode cX11_game 119 = .ok (.iload 4, 2) := by decide +kernel
theorem dX11_game_121 : decode cX11_game 121 = .ok (.ifCond .ne 14, 3) := by decide +kernel
theorem dX11_game_124 : decode cX11_game 124 = .ok (.bipush 10, 2) := by decide +kernel
theorem dX11_game_126 : decode cX11_game 126 = .ok (.iload 8, 2) := by decide +kernel
theorem dX11_game_128 : decode cX11_game 128 = .ok (.imul, 1) := by decide +kernel
theorem dX11_game_129 : decode cX11_game 129 = .ok (.iload 9, 2) := by decide +kernel
theorem dX11_game_131 : decode cX11_game 131 = .ok (.iadd, 1) := by decide +kernel
theorem dX11_game_132 : decode cX11_game 132 = .ok (.goto 5, 3) := by decide +kernel
theorem dX11_game_135 : decode cX11_game 135 = .ok (.iload 5, 2) := by decide +kernel
theorem dX11_game_137 : decode cX11_game 137 = .ok (.istore 5, 2) := by decide +kernel
theorem dX11_game_139 : decode cX11_game 139 = .ok (.iinc 4 1, 3) := by decide +kernel
theorem dX11_game_142 : decode cX11_game 142 = .ok (.iinc 9 1, 3) := by decide +kernel
theorem dX11_game_145 : decode cX11_game 145 = .ok (.goto (-59), 3) := by decide +kernel
theorem dX11_game_148 : decode cX11_game 148 = .ok (.iinc 8 1, 3) := by decide +kernel
theorem dX11_game_151 : decode cX11_game 151 = .ok (.goto (-75), 3) := by decide +kernel
theorem dX11_game_154 : decode cX11_game 154 = .ok (.iload_n 3, 1) := by decide +kernel
theorem dX11_game_155 : decode cX11_game 155 = .ok (.ifCond .ne 8, 3) := by decide +kernel
theorem dX11_game_158 : decode cX11_game 158 = .ok (.iload 4, 2) := by decide +kernel
theorem dX11_game_160 : decode cX11_game 160 = .ok (.goto 5, 3) := by decide +kernel
theorem dX11_game_163 : decode cX11_game 163 = .ok (.iload 5, 2) := by decide +kernel
theorem dX11_game_165 : decode cX11_game 165 = .ok (.ireturn, 1) := by decide +kernel
theorem dX11_towers_0 : decode cX11_towers 0 = .ok (.iload_n 3, 1) := by decide +kernel
theorem dX11_towers_1 : decode cX11_towers 1 = .ok (.ifCond .lt 8, 3) := by decide +kernel
theorem dX11_towers_4 : decode cX11_towers 4 = .ok (.iload_n 3, 1) := by decide +kernel
theorem dX11_towers_5 : decode cX11_towers 5 = .ok (.iconst 2, 1) := by decide +kernel
theorem dX11_towers_6 : decode cX11_towers 6 = .ok (.if_icmp .le 14, 3) := by decide +kernel
theorem dX11_towers_9 : decode cX11_towers 9 = .ok (.new 180, 3) := by decide +kernel
theorem dX11_towers_12 : decode cX11_towers 12 = .ok (.dup, 1) := by decide +kernel
theorem dX11_towers_13 : decode cX11_towers 13 = .ok (.ldc_w 369, 3) := by decide +kernel
theorem dX11_towers_16 : decode cX11_towers 16 = .ok (.invokespecial 184, 3) := by decide +kernel
theorem dX11_towers_19 : decode cX11_towers 19 = .ok (.athrow, 1) := by decide +kernel
theorem dX11_towers_20 : decode cX11_towers 20 = .ok (.aload_n 0, 1) := by decide +kernel
theorem dX11_towers_21 : decode cX11_towers 21 = .ok (.iload_n 2, 1) := by decide +kernel
theorem dX11_towers_22 : decode cX11_towers 22 = .ok (.invokevirtual 257, 3) := by decide +kernel
theorem dX11_towers_25 : decode cX11_towers 25 = .ok (.aload_n 0, 1) := by decide +kernel
theorem dX11_towers_26 : decode cX11_towers 26 = .ok (.getfield 96, 3) := by decide +kernel
theorem dX11_towers_29 : decode cX11_towers 29 = .ok (.aload_n 0, 1) := by decide +kernel
theorem dX11_towers_30 : decode cX11_towers 30 = .ok (.getfield 34, 3) := by decide +kernel
theorem dX11_towers_33 : decode cX11_towers 33 = .ok (.iload_n 1, 1) := by decide +kernel
theorem dX11_towers_34 : decode cX11_towers 34 = .ok (.invokevirtual 371, 3) := by decide +kernel
theorem dX11_towers_37 : decode cX11_towers 37 = .ok (.iconst 0, 1) := by decide +kernel
theorem dX11_towers_38 : decode cX11_towers 38 = .ok (.istore 4, 2) := by decide +kernel
theorem dX11_towers_40 : decode cX11_towers 40 = .ok (.iload 4, 2) := by decide +kernel
theorem dX11_towers_42 : decode cX11_towers 42 = .ok (.iload_n 2, 1) := by decide +kernel
theorem dX11_towers_43 : decode cX11_towers 43 = .ok (.if_icmp .ge 20, 3) := by decide +kernel
theorem dX11_towers_46 : decode cX11_towers 46 = .ok (.aload_n 0, 1) := by decide +kernel
theorem dX11_towers_47 : decode cX11_towers 47 = .ok (.getfield 96, 3) := by decide +kernel
theorem dX11_towers_50 : decode cX11_towers 50 = .ok (.aload_n 0, 1) := by decide +kernel
theorem dX11_towers_51 : decode cX11_towers 51 = .ok (.getfield 27, 3) := by decide +kernel
theorem dX11_towers_54 : decode cX11_towers 54 = .ok (.invokevirtual 375, 3) := by decide +kernel
theorem dX11_towers_57 : decode cX11_towers 57 = .ok (.iinc 4 1, 3) := by decide +kernel
theorem dX11_towers_60 : decode cX11_towers 60 = .ok (.goto (-20), 3) := by decide +kernel
theorem dX11_towers_63 : decode cX11_towers 63 = .ok (.iload_n 3, 1) := by decide +kernel
theorem dX11_towers_64 : decode cX11_towers 64 = .ok (.ifCond .ne 17, 3) := by decide +kernel
theorem dX11_towers_67 : decode cX11_towers 67 = .ok (.aload_n 0, 1) := by decide +kernel
theorem dX11_towers_68 : decode cX11_towers 68 = .ok (.getfield 96, 3) := by decide +kernel
theorem dX11_towers_71 : decode cX11_towers 71 = .ok (.aload_n 0, 1) := by decide +kernel
theorem dX11_towers_72 : decode cX11_towers 72 = .ok (.getfield 27, 3) := by decide +kernel
theorem dX11_towers_75 : decode cX11_towers 75 = .ok (.invokevirtual 379, 3) := by decide +kernel
theorem dX11_towers_78 : decode cX11_towers 78 = .ok (.goto 33, 3) := by decide +kernel
theorem dX11_towers_81 : decode cX11_towers 81 = .ok (.iload_n 3, 1) := by decide +kernel
theorem dX11_towers_82 : decode cX11_towers 82 = .ok (.iconst 1, 1) := by decide +kernel
theorem dX11_towers_83 : decode cX11_towers 83 = .ok (.if_icmp .ne 17, 3) := by decide +kernel
theorem dX11_towers_86 : decode cX11_towers 86 = .ok (.aload_n 0, 1) := by decide +kernel
theorem dX11_towers_87 : decode cX11_towers 87 = .ok (.getfield 96, 3) := by decide +kernel
theorem dX11_towers_90 : decode cX11_towers 90 = .ok (.aload_n 0, 1) := by decide +kernel
theorem dX11_towers_91 : decode cX11_towers 91 = .ok (.getfield 27, 3) := by decide +kernel
theorem dX11_towers_94 : decode cX11_towers 94 = .ok (.invokevirtual 383, 3) := by decide +kernel
theorem dX11_towers_97 : decode cX11_towers 97 = .ok (.goto 14, 3) := by decide +kernel
theorem dX11_towers_100 : decode cX11_towers 100 = .ok (.aload_n 0, 1) := by decide +kernel
theorem dX11_towers_101 : decode cX11_towers 101 = .ok (.getfield 96, 3) := by decide +kernel
theorem dX11_towers_104 : decode cX11_towers 104 = .ok (.aload_n 0, 1) := by decide +kernel
theorem dX11_towers_105 : decode cX11_towers 105 = .ok (.getfield 27, 3) := by decide +kernel
theorem dX11_towers_108 : decode cX11_towers 108 = .ok (.invokevirtual 386, 3) := by decide +kernel
theorem dX11_towers_111 : decode cX11_towers 111 = .ok (.ireturn, 1) := by decide +kernel
theorem dX11_needed_0 : decode cX11_needed 0 = .ok (.aload_n 0, 1) := by decide +kernel
theorem dX11_needed_1 : decode cX11_needed 1 = .ok (.iload_n 1, 1) := by decide +kernel
theorem dX11_needed_2 : decode cX11_needed 2 = .ok (.invokevirtual 185, 3) := by decide +kernel
theorem dX11_needed_5 : decode cX11_needed 5 = .ok (.aload_n 0, 1) := by decide +kernel
theorem dX11_needed_6 : decode cX11_needed 6 = .ok (.iload_n 2, 1) := by decide +kernel
theorem dX11_needed_7 : decode cX11_needed 7 = .ok (.invokevirtual 389, 3) := by decide +kernel
theorem dX11_needed_10 : decode cX11_needed 10 = .ok (.aload_n 0, 1) := by decide +kernel
theorem dX11_needed_11 : decode cX11_needed 11 = .ok (.getfield 34, 3) := by decide +kernel
theorem dX11_needed_14 : decode cX11_needed 14 = .ok (.aload_n 0, 1) := by decide +kernel
theorem dX11_needed_15 : decode cX11_needed 15 = .ok (.getfield 27, 3) := by decide +kernel
theorem dX11_needed_18 : decode cX11_needed 18 = .ok (.iload_n 1, 1) := by decide +kernel
theorem dX11_needed_19 : decode cX11_needed 19 = .ok (.iload_n 2, 1) := by decide +kernel
theorem dX11_needed_20 : decode cX11_needed 20 = .ok (.invokevirtual 392, 3) := by decide +kernel
theorem dX11_needed_23 : decode cX11_needed 23 = .ok (.ireturn, 1) := by decide +kernel
theorem dX11_grown_0 : decode cX11_grown 0 = .ok (.aload_n 0, 1) := by decide +kernel
theorem dX11_grown_1 : decode cX11_grown 1 = .ok (.iload_n 1, 1) := by decide +kernel
theorem dX11_grown_2 : decode cX11_grown 2 = .ok (.invokevirtual 185, 3) := by decide +kernel
theorem dX11_grown_5 : decode cX11_grown 5 = .ok (.aload_n 0, 1) := by decide +kernel
theorem dX11_grown_6 : decode cX11_grown 6 = .ok (.iload_n 2, 1) := by decide +kernel
theorem dX11_grown_7 : decode cX11_grown 7 = .ok (.invokevirtual 389, 3) := by decide +kernel
theorem dX11_grown_10 : decode cX11_grown 10 = .ok (.aload_n 0, 1) := by decide +kernel
theorem dX11_grown_11 : decode cX11_grown 11 = .ok (.getfield 34, 3) := by decide +kernel
theorem dX11_grown_14 : decode cX11_grown 14 = .ok (.iload_n 1, 1) := by decide +kernel
theorem dX11_grown_15 : decode cX11_grown 15 = .ok (.invokevirtual 204, 3) := by decide +kernel
theorem dX11_grown_18 : decode cX11_grown 18 = .ok (.iconst (-1), 1) := by decide +kernel
theorem dX11_grown_19 : decode cX11_grown 19 = .ok (.if_icmp .eq 5, 3) := by decide +kernel
theorem dX11_grown_22 : decode cX11_grown 22 = .ok (.iconst (-1), 1) := by decide +kernel
theorem dX11_grown_23 : decode cX11_grown 23 = .ok (.ireturn, 1) := by decide +kernel
theorem dX11_grown_24 : decode cX11_grown 24 = .ok (.iconst 0, 1) := by decide +kernel
theorem dX11_grown_25 : decode cX11_grown 25 = .ok (.istore_n 3, 1) := by decide +kernel
theorem dX11_grown_26 : decode cX11_grown 26 = .ok (.iload_n 3, 1) := by decide +kernel
theorem dX11_grown_27 : decode cX11_grown 27 = .ok (.bipush 60, 2) := by decide +kernel
theorem dX11_grown_29 : decode cX11_grown 29 = .ok (.if_icmp .gt 40, 3) := by decide +kernel
theorem dX11_grown_32 : decode cX11_grown 32 = .ok (.aload_n 0, 1) := by decide +kernel
theorem dX11_grown_33 : decode cX11_grown 33 = .ok (.getfield 68, 3) := by decide +kernel
theorem dX11_grown_36 : decode cX11_grown 36 = .ok (.aload_n 0, 1) := by decide +kernel
theorem dX11_grown_37 : decode cX11_grown 37 = .ok (.getfield 27, 3) := by decide +kernel
theorem dX11_grown_40 : decode cX11_grown 40 = .ok (.aload_n 0, 1) := by decide +kernel
theorem dX11_grown_41 : decode cX11_grown 41 = .ok (.getfield 34, 3) := by decide +kernel
theorem dX11_grown_44 : decode cX11_grown 44 = .ok (.iload_n 3, 1) := by decide +kernel
theorem dX11_grown_45 : decode cX11_grown 45 = .ok (.invokevirtual 260, 3) := by decide +kernel
theorem dX11_grown_48 : decode cX11_grown 48 = .ok (.aload_n 0, 1) := by decide +kernel
theorem dX11_grown_49 : decode cX11_grown 49 = .ok (.getfield 68, 3) := by decide +kernel
theorem dX11_grown_52 : decode cX11_grown 52 = .ok (.iload_n 3, 1) := by decide +kernel
theorem dX11_grown_53 : decode cX11_grown 53 = .ok (.iload_n 1, 1) := by decide +kernel
theorem dX11_grown_54 : decode cX11_grown 54 = .ok (.invokevirtual 264, 3) := by decide +kernel
theorem dX11_grown_57 : decode cX11_grown 57 = .ok (.iload_n 2, 1) := by decide +kernel
theorem dX11_grown_58 : decode cX11_grown 58 = .ok (.if_icmp .ne 5, 3) := by decide +kernel
theorem dX11_grown_61 : decode cX11_grown 61 = .ok (.iload_n 3, 1) := by decide +kernel
theorem dX11_grown_62 : decode cX11_grown 62 = .ok (.ireturn, 1) := by decide +kernel
theorem dX11_grown_63 : decode cX11_grown 63 = .ok (.iinc 3 1, 3) := by decide +kernel
theorem dX11_grown_66 : decode cX11_grown 66 = .ok (.goto (-40), 3) := by decide +kernel
theorem dX11_grown_69 : decode cX11_grown 69 = .ok (.iconst (-1), 1) := by decide +kernel
theorem dX11_grown_70 : decode cX11_grown 70 = .ok (.ireturn, 1) := by decide +kernel
theorem dX11_scale_0 : decode cX11_scale 0 = .ok (.aload_n 0, 1) := by decide +kernel
theorem dX11_scale_1 : decode cX11_scale 1 = .ok (.iload_n 1, 1) := by decide +kernel
theorem dX11_scale_2 : decode cX11_scale 2 = .ok (.invokevirtual 347, 3) := by decide +kernel
theorem dX11_scale_5 : decode cX11_scale 5 = .ok (.aload_n 0, 1) := by decide +kernel
theorem dX11_scale_6 : decode cX11_scale 6 = .ok (.getfield 68, 3) := by decide +kernel
theorem dX11_scale_9 : decode cX11_scale 9 = .ok (.iconst 0, 1) := by decide +kernel
theorem dX11_scale_10 : decode cX11_scale 10 = .ok (.aload_n 0, 1) := by decide +kernel
theorem dX11_scale_11 : decode cX11_scale 11 = .ok (.invokevirtual 166, 3) := by decide +kernel
theorem dX11_scale_14 : decode cX11_scale 14 = .ok (.invokevirtual 172, 3) := by decide +kernel
theorem dX11_scale_17 : decode cX11_scale 17 = .ok (.istore_n 2, 1) := by decide +kernel
theorem dX11_scale_18 : decode cX11_scale 18 = .ok (.iconst 0, 1) := by decide +kernel
theorem dX11_scale_19 : decode cX11_scale 19 = .ok (.istore_n 3, 1) := by decide +kernel
theorem dX11_scale_20 : decode cX11_scale 20 = .ok (.iconst (-1), 1) := by decide +kernel
theorem dX11_scale_21 : decode cX11_scale 21 = .ok (.istore 4, 2) := by decide +kernel
theorem dX11_scale_23 : decode cX11_scale 23 = .ok (.iconst 0, 1) := by decide +kernel
theorem dX11_scale_24 : decode cX11_scale 24 = .ok (.istore 5, 2) := by decide +kernel
theorem dX11_scale_26 : decode cX11_scale 26 = .ok (.iconst 0, 1) := by decide +kernel
theorem dX11_scale_27 : decode cX11_scale 27 = .ok (.istore 6, 2) := by decide +kernel
theorem dX11_scale_29 : decode cX11_scale 29 = .ok (.iload 6, 2) := by decide +kernel
theorem dX11_scale_31 : decode cX11_scale 31 = .ok (.bipush 16, 2) := by decide +kernel
theorem dX11_scale_33 : decode cX11_scale 33 = .ok (.if_icmp .ge 47, 3) := by decide +kernel
theorem dX11_scale_36 : decode cX11_scale 36 = .ok (.iload_n 2, 1) := by decide +kernel
theorem dX11_scale_37 : decode cX11_scale 37 = .ok (.iload 6, 2) := by decide +kernel
theorem dX11_scale_39 : decode cX11_scale 39 = .ok (.ishr, 1) := by decide +kernel
theorem dX11_scale_40 : decode cX11_scale 40 = .ok (.iconst 1, 1) := by decide +kernel
theorem dX11_scale_41 : decode cX11_scale 41 = .ok (.iand, 1) := by decide +kernel
theorem dX11_scale_42 : decode cX11_scale 42 = .ok (.iconst 1, 1) := by decide +kernel
theorem dX11_scale_43 : decode cX11_scale 43 = .ok (.if_icmp .ne 10, 3) := by decide +kernel
theorem dX11_scale_46 : decode cX11_scale 46 = .ok (.iload 5, 2) := by decide +kernel
theorem dX11_scale_48 : decode cX11_scale 48 = .ok (.iconst 1, 1) := by decide +kernel
theorem dX11_scale_49 : decode cX11_scale 49 = .ok (.iadd, 1) := by decide +kernel
theorem dX11_scale_50 : decode cX11_scale 50 = .ok (.goto 4, 3) := by decide +kernel
theorem dX11_scale_53 : decode cX11_scale 53 = .ok (.iconst 0, 1) := by decide +kernel
theorem dX11_scale_54 : decode cX11_scale 54 = .ok (.istore 5, 2) := by decide +kernel
theorem dX11_scale_56 : decode cX11_scale 56 = .ok (.iload 5, 2) := by decide +kernel
theorem dX11_scale_58 : decode cX11_scale 58 = .ok (.iload_n 3, 1) := by decide +kernel
theorem dX11_scale_59 : decode cX11_scale 59 = .ok (.if_icmp .le 15, 3) := by decide +kernel
theorem dX11_scale_62 : decode cX11_scale 62 = .ok (.iload 5, 2) := by decide +kernel
theorem dX11_scale_64 : decode cX11_scale 64 = .ok (.istore_n 3, 1) := by decide +kernel
theorem dX11_scale_65 : decode cX11_scale 65 = .ok (.iload 6, 2) := by decide +kernel
theorem dX11_scale_67 : decode cX11_scale 67 = .ok (.iload 5, 2) := by decide +kernel
theorem dX11_scale_69 : decode cX11_scale 69 = .ok (.isub, 1) := by decide +kernel
theorem dX11_scale_70 : decode cX11_scale 70 = .ok (.iconst 1, 1) := by decide +kernel
theorem dX11_scale_71 : decode cX11_scale 71 = .ok (.iadd, 1) := by decide +kernel
theorem dX11_scale_72 : decode cX11_scale 72 = .ok (.istore 4, 2) := by decide +kernel
theorem dX11_scale_74 : decode cX11_scale 74 = .ok (.iinc 6 1, 3) := by decide +kernel
theorem dX11_scale_77 : decode cX11_scale 77 = .ok (.goto (-48), 3) := by decide +kernel
theorem dX11_scale_80 : decode cX11_scale 80 = .ok (.iload_n 1, 1) := by decide +kernel
theorem dX11_scale_81 : decode cX11_scale 81 = .ok (.ifCond .ne 7, 3) := by decide +kernel
theorem dX11_scale_84 : decode cX11_scale 84 = .ok (.iload_n 3, 1) := by decide +kernel
theorem dX11_scale_85 : decode cX11_scale 85 = .ok (.goto 5, 3) := by decide +kernel
theorem dX11_scale_88 : decode cX11_scale 88 = .ok (.iload 4, 2) := by decide +kernel
theorem dX11_scale_90 : decode cX11_scale 90 = .ok (.ireturn, 1) := by decide +kernel
theorem dX11_mouth_0 : decode cX11_mouth 0 = .ok (.aload_n 0, 1) := by decide +kernel
theorem dX11_mouth_1 : decode cX11_mouth 1 = .ok (.iload_n 1, 1) := by decide +kernel
theorem dX11_mouth_2 : decode cX11_mouth 2 = .ok (.invokevirtual 347, 3) := by decide +kernel
theorem dX11_mouth_5 : decode cX11_mouth 5 = .ok (.aload_n 0, 1) := by decide +kernel
theorem dX11_mouth_6 : decode cX11_mouth 6 = .ok (.invokevirtual 166, 3) := by decide +kernel
theorem dX11_mouth_9 : decode cX11_mouth 9 = .ok (.istore_n 2, 1) := by decide +kernel
theorem dX11_mouth_10 : decode cX11_mouth 10 = .ok (.iconst (-1), 1) := by decide +kernel
theorem dX11_mouth_11 : decode cX11_mouth 11 = .ok (.istore_n 3, 1) := by decide +kernel
theorem dX11_mouth_12 : decode cX11_mouth 12 = .ok (.iconst 0, 1) := by decide +kernel
theorem dX11_mouth_13 : decode cX11_mouth 13 = .ok (.istore 4, 2) := by decide +kernel
theorem dX11_mouth_15 : decode cX11_mouth 15 = .ok (.iload 4, 2) := by decide +kernel
theorem dX11_mouth_17 : decode cX11_mouth 17 = .ok (.aload_n 0, 1) := by decide +kernel
theorem dX11_mouth_18 : decode cX11_mouth 18 = .ok (.getfield 27, 3) := by decide +kernel
theorem dX11_mouth_21 : decode cX11_mouth 21 = .ok (.getfield 140, 3) := by decide +kernel
theorem dX11_mouth_24 : decode cX11_mouth 24 = .ok (.if_icmp .ge 38, 3) := by decide +kernel
theorem dX11_mouth_27 : decode cX11_mouth 27 = .ok (.iload_n 2, 1) := by decide +kernel
theorem dX11_mouth_28 : decode cX11_mouth 28 = .ok (.iload 4, 2) := by decide +kernel
theorem dX11_mouth_30 : decode cX11_mouth 30 = .ok (.ishr, 1) := by decide +kernel
theorem dX11_mouth_31 : decode cX11_mouth 31 = .ok (.iconst 1, 1) := by decide +kernel
theorem dX11_mouth_32 : decode cX11_mouth 32 = .ok (.iand, 1) := by decide +kernel
theorem dX11_mouth_33 : decode cX11_mouth 33 = .ok (.iconst 1, 1) := by decide +kernel
theorem dX11_mouth_34 : decode cX11_mouth 34 = .ok (.if_icmp .ne 22, 3) := by decide +kernel
theorem dX11_mouth_37 : decode cX11_mouth 37 = .ok (.iload_n 3, 1) := by decide +kernel
theorem dX11_mouth_38 : decode cX11_mouth 38 = .ok (.iconst (-1), 1) := by decide +kernel
theorem dX11_mouth_39 : decode cX11_mouth 39 = .ok (.if_icmp .eq 14, 3) := by decide +kernel
theorem dX11_mouth_42 : decode cX11_mouth 42 = .ok (.aload_n 0, 1) := by decide +kernel
theorem dX11_mouth_43 : decode cX11_mouth 43 = .ok (.iload 4, 2) := by decide +kernel
theorem dX11_mouth_45 : decode cX11_mouth 45 = .ok (.iload_n 3, 1) := by decide +kernel
theorem dX11_mouth_46 : decode cX11_mouth 46 = .ok (.iload_n 1, 1) := by decide +kernel
theorem dX11_mouth_47 : decode cX11_mouth 47 = .ok (.invokevirtual 395, 3) := by decide +kernel
theorem dX11_mouth_50 : decode cX11_mouth 50 = .ok (.ifCond .eq 6, 3) := by decide +kernel
theorem dX11_mouth_53 : decode cX11_mouth 53 = .ok (.iload 4, 2) := by decide +kernel
theorem dX11_mouth_55 : decode cX11_mouth 55 = .ok (.istore_n 3, 1) := by decide +kernel
theorem dX11_mouth_56 : decode cX11_mouth 56 = .ok (.iinc 4 1, 3) := by decide +kernel
theorem dX11_mouth_59 : decode cX11_mouth 59 = .ok (.goto (-44), 3) := by decide +kernel
theorem dX11_mouth_62 : decode cX11_mouth 62 = .ok (.iload_n 3, 1) := by decide +kernel
theorem dX11_mouth_63 : decode cX11_mouth 63 = .ok (.ireturn, 1) := by decide +kernel
theorem dX11_leads_0 : decode cX11_leads 0 = .ok (.aload_n 0, 1) := by decide +kernel
theorem dX11_leads_1 : decode cX11_leads 1 = .ok (.iload_n 1, 1) := by decide +kernel
theorem dX11_leads_2 : decode cX11_leads 2 = .ok (.invokevirtual 185, 3) := by decide +kernel
theorem dX11_leads_5 : decode cX11_leads 5 = .ok (.aload_n 0, 1) := by decide +kernel
theorem dX11_leads_6 : decode cX11_leads 6 = .ok (.getfield 27, 3) := by decide +kernel
theorem dX11_leads_9 : decode cX11_leads 9 = .ok (.getfield 163, 3) := by decide +kernel
theorem dX11_leads_12 : decode cX11_leads 12 = .ok (.ifCond .ne 5, 3) := by decide +kernel
theorem dX11_leads_15 : decode cX11_leads 15 = .ok (.iconst 0, 1) := by decide +kernel
theorem dX11_leads_16 : decode cX11_leads 16 = .ok (.ireturn, 1) := by decide +kernel
theorem dX11_leads_17 : decode cX11_leads 17 = .ok (.aload_n 0, 1) := by decide +kernel
theorem dX11_leads_18 : decode cX11_leads 18 = .ok (.getfield 75, 3) := by decide +kernel
theorem dX11_leads_21 : decode cX11_leads 21 = .ok (.aload_n 0, 1) := by decide +kernel
theorem dX11_leads_22 : decode cX11_leads 22 = .ok (.getfield 27, 3) := by decide +kernel
theorem dX11_leads_25 : decode cX11_leads 25 = .ok (.aload_n 0, 1) := by decide +kernel
theorem dX11_leads_26 : decode cX11_leads 26 = .ok (.getfield 34, 3) := by decide +kernel
theorem dX11_leads_29 : decode cX11_leads 29 = .ok (.invokevirtual 287, 3) := by decide +kernel
theorem dX11_leads_32 : decode cX11_leads 32 = .ok (.aload_n 0, 1) := by decide +kernel
theorem dX11_leads_33 : decode cX11_leads 33 = .ok (.getfield 75, 3) := by decide +kernel
theorem dX11_leads_36 : decode cX11_leads 36 = .ok (.iload_n 1, 1) := by decide +kernel
theorem dX11_leads_37 : decode cX11_leads 37 = .ok (.invokevirtual 399, 3) := by decide +kernel
theorem dX11_leads_40 : decode cX11_leads 40 = .ok (.ireturn, 1) := by decide +kernel
theorem dX11_meets_0 : decode cX11_meets 0 = .ok (.aload_n 0, 1) := by decide +kernel
theorem dX11_meets_1 : decode cX11_meets 1 = .ok (.iload_n 1, 1) := by decide +kernel
theorem dX11_meets_2 : decode cX11_meets 2 = .ok (.invokevirtual 185, 3) := by decide +kernel
theorem dX11_meets_5 : decode cX11_meets 5 = .ok (.aload_n 0, 1) := by decide +kernel
theorem dX11_meets_6 : decode cX11_meets 6 = .ok (.iload_n 2, 1) := by decide +kernel
theorem dX11_meets_7 : decode cX11_meets 7 = .ok (.invokevirtual 185, 3) := by decide +kernel
theorem dX11_meets_10 : decode cX11_meets 10 = .ok (.aload_n 0, 1) := by decide +kernel
theorem dX11_meets_11 : decode cX11_meets 11 = .ok (.getfield 27, 3) := by decide +kernel
theorem dX11_meets_14 : decode cX11_meets 14 = .ok (.getfield 163, 3) := by decide +kernel
theorem dX11_meets_17 : decode cX11_meets 17 = .ok (.ifCond .eq 8, 3) := by decide +kernel
theorem dX11_meets_20 : decode cX11_meets 20 = .ok (.iload_n 1, 1) := by decide +kernel
theorem dX11_meets_21 : decode cX11_meets 21 = .ok (.iload_n 2, 1) := by decide +kernel
theorem dX11_meets_22 : decode cX11_meets 22 = .ok (.if_icmp .ne 5, 3) := by decide +kernel
theorem dX11_meets_25 : decode cX11_meets 25 = .ok (.iconst 0, 1) := by decide +kernel
theorem dX11_meets_26 : decode cX11_meets 26 = .ok (.ireturn, 1) := by decide +kernel
theorem dX11_meets_27 : decode cX11_meets 27 = .ok (.aload_n 0, 1) := by decide +kernel
theorem dX11_meets_28 : decode cX11_meets 28 = .ok (.getfield 75, 3) := by decide +kernel
theorem dX11_meets_31 : decode cX11_meets 31 = .ok (.aload_n 0, 1) := by decide +kernel
theorem dX11_meets_32 : decode cX11_meets 32 = .ok (.getfield 27, 3) := by decide +kernel
theorem dX11_meets_35 : decode cX11_meets 35 = .ok (.aload_n 0, 1) := by decide +kernel
theorem dX11_meets_36 : decode cX11_meets 36 = .ok (.getfield 34, 3) := by decide +kernel
theorem dX11_meets_39 : decode cX11_meets 39 = .ok (.invokevirtual 287, 3) := by decide +kernel
theorem dX11_meets_42 : decode cX11_meets 42 = .ok (.aload_n 0, 1) := by decide +kernel
theorem dX11_meets_43 : decode cX11_meets 43 = .ok (.getfield 75, 3) := by decide +kernel
theorem dX11_meets_46 : decode cX11_meets 46 = .ok (.iload_n 1, 1) := by decide +kernel
theorem dX11_meets_47 : decode cX11_meets 47 = .ok (.iload_n 2, 1) := by decide +kernel
theorem dX11_meets_48 : decode cX11_meets 48 = .ok (.invokevirtual 402, 3) := by decide +kernel
theorem dX11_meets_51 : decode cX11_meets 51 = .ok (.ireturn, 1) := by decide +kernel
theorem dX11_without_0 : decode cX11_without 0 = .ok (.aload_n 0, 1) := by decide +kernel
theorem dX11_without_1 : decode cX11_without 1 = .ok (.iload_n 1, 1) := by decide +kernel
theorem dX11_without_2 : decode cX11_without 2 = .ok (.invokevirtual 185, 3) := by decide +kernel
theorem dX11_without_5 : decode cX11_without 5 = .ok (.aload_n 0, 1) := by decide +kernel
theorem dX11_without_6 : decode cX11_without 6 = .ok (.getfield 68, 3) := by decide +kernel
theorem dX11_without_9 : decode cX11_without 9 = .ok (.aload_n 0, 1) := by decide +kernel
theorem dX11_without_10 : decode cX11_without 10 = .ok (.getfield 27, 3) := by decide +kernel
theorem dX11_without_13 : decode cX11_without 13 = .ok (.aload_n 0, 1) := by decide +kernel
theorem dX11_without_14 : decode cX11_without 14 = .ok (.getfield 34, 3) := by decide +kernel
theorem dX11_without_17 : decode cX11_without 17 = .ok (.bipush 60, 2) := by decide +kernel
theorem dX11_without_19 : decode cX11_without 19 = .ok (.invokevirtual 260, 3) := by decide +kernel
theorem dX11_without_22 : decode cX11_without 22 = .ok (.aload_n 0, 1) := by decide +kernel
theorem dX11_without_23 : decode cX11_without 23 = .ok (.iconst 1, 1) := by decide +kernel
theorem dX11_without_24 : decode cX11_without 24 = .ok (.iload_n 1, 1) := by decide +kernel
theorem dX11_without_25 : decode cX11_without 25 = .ok (.ishl, 1) := by decide +kernel
theorem dX11_without_26 : decode cX11_without 26 = .ok (.iconst (-1), 1) := by decide +kernel
theorem dX11_without_27 : decode cX11_without 27 = .ok (.ixor, 1) := by decide +kernel
theorem dX11_without_28 : decode cX11_without 28 = .ok (.invokevirtual 276, 3) := by decide +kernel
theorem dX11_without_31 : decode cX11_without 31 = .ok (.ireturn, 1) := by decide +kernel
theorem dX11_often_0 : decode cX11_often 0 = .ok (.aload_n 0, 1) := by decide +kernel
theorem dX11_often_1 : decode cX11_often 1 = .ok (.iload_n 1, 1) := by decide +kernel
theorem dX11_often_2 : decode cX11_often 2 = .ok (.invokevirtual 389, 3) := by decide +kernel
theorem dX11_often_5 : decode cX11_often 5 = .ok (.aload_n 0, 1) := by decide +kernel
theorem dX11_often_6 : decode cX11_often 6 = .ok (.getfield 68, 3) := by decide +kernel
theorem dX11_often_9 : decode cX11_often 9 = .ok (.aload_n 0, 1) := by decide +kernel
theorem dX11_often_10 : decode cX11_often 10 = .ok (.getfield 27, 3) := by decide +kernel
theorem dX11_often_13 : decode cX11_often 13 = .ok (.aload_n 0, 1) := by decide +kernel
theorem dX11_often_14 : decode cX11_often 14 = .ok (.getfield 34, 3) := by decide +kernel
theorem dX11_often_17 : decode cX11_often 17 = .ok (.bipush 60, 2) := by decide +kernel
theorem dX11_often_19 : decode cX11_often 19 = .ok (.invokevirtual 260, 3) := by decide +kernel
theorem dX11_often_22 : decode cX11_often 22 = .ok (.iconst 0, 1) := by decide +kernel
theorem dX11_often_23 : decode cX11_often 23 = .ok (.istore_n 2, 1) := by decide +kernel
theorem dX11_often_24 : decode cX11_often 24 = .ok (.iconst 1, 1) := by decide +kernel
theorem dX11_often_25 : decode cX11_often 25 = .ok (.istore_n 3, 1) := by decide +kernel
theorem dX11_often_26 : decode cX11_often 26 = .ok (.iload_n 3, 1) := by decide +kernel
theorem dX11_often_27 : decode cX11_often 27 = .ok (.bipush 60, 2) := by decide +kernel
theorem dX11_often_29 : decode cX11_often 29 = .ok (.if_icmp .gt 32, 3) := by decide +kernel
theorem dX11_often_32 : decode cX11_often 32 = .ok (.iload_n 2, 1) := by decide +kernel
theorem dX11_often_33 : decode cX11_often 33 = .ok (.aload_n 0, 1) := by decide +kernel
theorem dX11_often_34 : decode cX11_often 34 = .ok (.getfield 68, 3) := by decide +kernel
theorem dX11_often_37 : decode cX11_often 37 = .ok (.iload_n 3, 1) := by decide +kernel
theorem dX11_often_38 : decode cX11_often 38 = .ok (.aload_n 0, 1) := by decide +kernel
theorem dX11_often_39 : decode cX11_often 39 = .ok (.getfield 68, 3) := by decide +kernel
theorem dX11_often_42 : decode cX11_often 42 = .ok (.iload_n 3, 1) := by decide +kernel
theorem dX11_often_43 : decode cX11_often 43 = .ok (.invokevirtual 270, 3) := by decide +kernel
theorem dX11_often_46 : decode cX11_often 46 = .ok (.invokevirtual 172, 3) := by decide +kernel
theorem dX11_often_49 : decode cX11_often 49 = .ok (.iload_n 1, 1) := by decide +kernel
theorem dX11_often_50 : decode cX11_often 50 = .ok (.ishr, 1) := by decide +kernel
theorem dX11_often_51 : decode cX11_often 51 = .ok (.iconst 1, 1) := by decide +kernel
theorem dX11_often_52 : decode cX11_often 52 = .ok (.iand, 1) := by decide +kernel
theorem dX11_often_53 : decode cX11_often 53 = .ok (.iadd, 1) := by decide +kernel
theorem dX11_often_54 : decode cX11_often 54 = .ok (.istore_n 2, 1) := by decide +kernel
theorem dX11_often_55 : decode cX11_often 55 = .ok (.iinc 3 1, 3) := by decide +kernel
theorem dX11_often_58 : decode cX11_often 58 = .ok (.goto (-32), 3) := by decide +kernel
theorem dX11_often_61 : decode cX11_often 61 = .ok (.iload_n 2, 1) := by decide +kernel
theorem dX11_often_62 : decode cX11_often 62 = .ok (.ireturn, 1) := by decide +kernel
theorem dX11_spare_0 : decode cX11_spare 0 = .ok (.aload_n 0, 1) := by decide +kernel
theorem dX11_spare_1 : decode cX11_spare 1 = .ok (.invokevirtual 166, 3) := by decide +kernel
theorem dX11_spare_4 : decode cX11_spare 4 = .ok (.istore_n 1, 1) := by decide +kernel
theorem dX11_spare_5 : decode cX11_spare 5 = .ok (.iconst 0, 1) := by decide +kernel
theorem dX11_spare_6 : decode cX11_spare 6 = .ok (.istore_n 2, 1) := by decide +kernel
theorem dX11_spare_7 : decode cX11_spare 7 = .ok (.iconst 0, 1) := by decide +kernel
theorem dX11_spare_8 : decode cX11_spare 8 = .ok (.istore_n 3, 1) := by decide +kernel
theorem dX11_spare_9 : decode cX11_spare 9 = .ok (.iload_n 3, 1) := by decide +kernel
theorem dX11_spare_10 : decode cX11_spare 10 = .ok (.aload_n 0, 1) := by decide +kernel
theorem dX11_spare_11 : decode cX11_spare 11 = .ok (.getfield 27, 3) := by decide +kernel
theorem dX11_spare_14 : decode cX11_spare 14 = .ok (.getfield 140, 3) := by decide +kernel
theorem dX11_spare_17 : decode cX11_spare 17 = .ok (.if_icmp .ge 50, 3) := by decide +kernel
theorem dX11_spare_20 : decode cX11_spare 20 = .ok (.iconst 1, 1) := by decide +kernel
theorem dX11_spare_21 : decode cX11_spare 21 = .ok (.iload_n 3, 1) := by decide +kernel
theorem dX11_spare_22 : decode cX11_spare 22 = .ok (.ishl, 1) := by decide +kernel
theorem dX11_spare_23 : decode cX11_spare 23 = .ok (.istore 4, 2) := by decide +kernel
theorem dX11_spare_25 : decode cX11_spare 25 = .ok (.iload_n 1, 1) := by decide +kernel
theorem dX11_spare_26 : decode cX11_spare 26 = .ok (.iload 4, 2) := by decide +kernel
theorem dX11_spare_28 : decode cX11_spare 28 = .ok (.iand, 1) := by decide +kernel
theorem dX11_spare_29 : decode cX11_spare 29 = .ok (.ifCond .eq 32, 3) := by decide +kernel
theorem dX11_spare_32 : decode cX11_spare 32 = .ok (.aload_n 0, 1) := by decide +kernel
theorem dX11_spare_33 : decode cX11_spare 33 = .ok (.getfield 27, 3) := by decide +kernel
theorem dX11_spare_36 : decode cX11_spare 36 = .ok (.aload_n 0, 1) := by decide +kernel
theorem dX11_spare_37 : decode cX11_spare 37 = .ok (.getfield 68, 3) := by decide +kernel
theorem dX11_spare_40 : decode cX11_spare 40 = .ok (.iconst 0, 1) := by decide +kernel
theorem dX11_spare_41 : decode cX11_spare 41 = .ok (.iload_n 1, 1) := by decide +kernel
theorem dX11_spare_42 : decode cX11_spare 42 = .ok (.iload 4, 2) := by decide +kernel
theorem dX11_spare_44 : decode cX11_spare 44 = .ok (.iconst (-1), 1) := by decide +kernel
theorem dX11_spare_45 : decode cX11_spare 45 = .ok (.ixor, 1) := by decide +kernel
theorem dX11_spare_46 : decode cX11_spare 46 = .ok (.iand, 1) := by decide +kernel
theorem dX11_spare_47 : decode cX11_spare 47 = .ok (.invokevirtual 172, 3) := by decide +kernel
theorem dX11_spare_50 : decode cX11_spare 50 = .ok (.invokevirtual 273, 3) := by decide +kernel
theorem dX11_spare_53 : decode cX11_spare 53 = .ok (.ifCond .eq 8, 3) := by decide +kernel
theorem dX11_spare_56 : decode cX11_spare 56 = .ok (.iload_n 2, 1) := by decide +kernel
theorem dX11_spare_57 : decode cX11_spare 57 = .ok (.iload 4, 2) := by decide +kernel
theorem dX11_spare_59 : decode cX11_spare 59 = .ok (.ior, 1) := by decide +kernel
theorem dX11_spare_60 : decode cX11_spare 60 = .ok (.istore_n 2, 1) := by decide +kernel
theorem dX11_spare_61 : decode cX11_spare 61 = .ok (.iinc 3 1, 3) := by decide +kernel
theorem dX11_spare_64 : decode cX11_spare 64 = .ok (.goto (-55), 3) := by decide +kernel
theorem dX11_spare_67 : decode cX11_spare 67 = .ok (.iload_n 2, 1) := by decide +kernel
theorem dX11_spare_68 : decode cX11_spare 68 = .ok (.ireturn, 1) := by decide +kernel
theorem dX11_image_0 : decode cX11_image 0 = .ok (.aload_n 0, 1) := by decide +kernel
theorem dX11_image_1 : decode cX11_image 1 = .ok (.getfield 52, 3) := by decide +kernel
theorem dX11_image_4 : decode cX11_image 4 = .ok (.aload_n 0, 1) := by decide +kernel
theorem dX11_image_5 : decode cX11_image 5 = .ok (.getfield 34, 3) := by decide +kernel
theorem dX11_image_8 : decode cX11_image 8 = .ok (.invokevirtual 129, 3) := by decide +kernel
theorem dX11_image_11 : decode cX11_image 11 = .ok (.aload_n 0, 1) := by decide +kernel
theorem dX11_image_12 : decode cX11_image 12 = .ok (.getfield 55, 3) := by decide +kernel
theorem dX11_image_15 : decode cX11_image 15 = .ok (.aload_n 0, 1) := by decide +kernel
theorem dX11_image_16 : decode cX11_image 16 = .ok (.getfield 41, 3) := by decide +kernel
theorem dX11_image_19 : decode cX11_image 19 = .ok (.invokevirtual 405, 3) := by decide +kernel
theorem dX11_image_22 : decode cX11_image 22 = .ok (.aload_n 0, 1) := by decide +kernel
theorem dX11_image_23 : decode cX11_image 23 = .ok (.getfield 58, 3) := by decide +kernel
theorem dX11_image_26 : decode cX11_image 26 = .ok (.aload_n 0, 1) := by decide +kernel
theorem dX11_image_27 : decode cX11_image 27 = .ok (.getfield 48, 3) := by decide +kernel
theorem dX11_image_30 : decode cX11_image 30 = .ok (.invokevirtual 408, 3) := by decide +kernel
theorem dX11_image_33 : decode cX11_image 33 = .ok (.aload_n 0, 1) := by decide +kernel
theorem dX11_image_34 : decode cX11_image 34 = .ok (.iconst 1, 1) := by decide +kernel
theorem dX11_image_35 : decode cX11_image 35 = .ok (.putfield 61, 3) := by decide +kernel
theorem dX11_image_38 : decode cX11_image 38 = .ok (.return_, 1) := by decide +kernel
theorem dX11_restore_0 : decode cX11_restore 0 = .ok (.aload_n 0, 1) := by decide +kernel
theorem dX11_restore_1 : decode cX11_restore 1 = .ok (.getfield 61, 3) := by decide +kernel
theorem dX11_restore_4 : decode cX11_restore 4 = .ok (.ifCond .ne 5, 3) := by decide +kernel
theorem dX11_restore_7 : decode cX11_restore 7 = .ok (.iconst 0, 1) := by decide +kernel
theorem dX11_restore_8 : decode cX11_restore 8 = .ok (.ireturn, 1) := by decide +kernel
theorem dX11_restore_9 : decode cX11_restore 9 = .ok (.aload_n 0, 1) := by decide +kernel
theorem dX11_restore_10 : decode cX11_restore 10 = .ok (.getfield 34, 3) := by decide +kernel
theorem dX11_restore_13 : decode cX11_restore 13 = .ok (.aload_n 0, 1) := by decide +kernel
theorem dX11_restore_14 : decode cX11_restore 14 = .ok (.getfield 52, 3) := by decide +kernel
theorem dX11_restore_17 : decode cX11_restore 17 = .ok (.invokevirtual 129, 3) := by decide +kernel
theorem dX11_restore_20 : decode cX11_restore 20 = .ok (.aload_n 0, 1) := by decide +kernel
theorem dX11_restore_21 : decode cX11_restore 21 = .ok (.getfield 41, 3) := by decide +kernel
theorem dX11_restore_24 : decode cX11_restore 24 = .ok (.aload_n 0, 1) := by decide +kernel
theorem dX11_restore_25 : decode cX11_restore 25 = .ok (.getfield 55, 3) := by decide +kernel
theorem dX11_restore_28 : decode cX11_restore 28 = .ok (.invokevirtual 405, 3) := by decide +kernel
theorem dX11_restore_31 : decode cX11_restore 31 = .ok (.aload_n 0, 1) := by decide +kernel
theorem dX11_restore_32 : decode cX11_restore 32 = .ok (.getfield 48, 3) := by decide +kernel
theorem dX11_restore_35 : decode cX11_restore 35 = .ok (.aload_n 0, 1) := by decide +kernel
theorem dX11_restore_36 : decode cX11_restore 36 = .ok (.getfield 58, 3) := by decide +kernel
theorem dX11_restore_39 : decode cX11_restore 39 = .ok (.invokevirtual 408, 3) := by decide +kernel
theorem dX11_restore_42 : decode cX11_restore 42 = .ok (.aload_n 0, 1) := by decide +kernel
theorem dX11_restore_43 : decode cX11_restore 43 = .ok (.invokevirtual 137, 3) := by decide +kernel
theorem dX11_restore_46 : decode cX11_restore 46 = .ok (.iconst 1, 1) := by decide +kernel
theorem dX11_restore_47 : decode cX11_restore 47 = .ok (.ireturn, 1) := by decide +kernel
theorem dX11_beginAct_0 : decode cX11_beginAct 0 = .ok (.aload_n 0, 1) := by decide +kernel
theorem dX11_beginAct_1 : decode cX11_beginAct 1 = .ok (.getfield 41, 3) := by decide +kernel
theorem dX11_beginAct_4 : decode cX11_beginAct 4 = .ok (.aload_n 0, 1) := by decide +kernel
theorem dX11_beginAct_5 : decode cX11_beginAct 5 = .ok (.getfield 34, 3) := by decide +kernel
theorem dX11_beginAct_8 : decode cX11_beginAct 8 = .ok (.invokevirtual 411, 3) := by decide +kernel
theorem dX11_beginAct_11 : decode cX11_beginAct 11 = .ok (.aload_n 0, 1) := by decide +kernel
theorem dX11_beginAct_12 : decode cX11_beginAct 12 = .ok (.invokevirtual 137, 3) := by decide +kernel
theorem dX11_beginAct_15 : decode cX11_beginAct 15 = .ok (.return_, 1) := by decide +kernel
theorem dX11_forgetWork_0 : decode cX11_forgetWork 0 = .ok (.aload_n 0, 1) := by decide +kernel
theorem dX11_forgetWork_1 : decode cX11_forgetWork 1 = .ok (.getfield 68, 3) := by decide +kernel
theorem dX11_forgetWork_4 : decode cX11_forgetWork 4 = .ok (.invokevirtual 414, 3) := by decide +kernel
theorem dX11_forgetWork_7 : decode cX11_forgetWork 7 = .ok (.aload_n 0, 1) := by decide +kernel
theorem dX11_forgetWork_8 : decode cX11_forgetWork 8 = .ok (.getfield 82, 3) := by decide +kernel
theorem dX11_forgetWork_11 : decode cX11_forgetWork 11 = .ok (.invokevirtual 415, 3) := by decide +kernel
theorem dX11_forgetWork_14 : decode cX11_forgetWork 14 = .ok (.return_, 1) := by decide +kernel
theorem dX11_refuseAct_0 : decode cX11_refuseAct 0 = .ok (.aload_n 0, 1) := by decide +kernel
theorem dX11_refuseAct_1 : decode cX11_refuseAct 1 = .ok (.getfield 20, 3) := by decide +kernel
theorem dX11_refuseAct_4 : decode cX11_refuseAct 4 = .ok (.iconst 1, 1) := by decide +kernel
theorem dX11_refuseAct_5 : decode cX11_refuseAct 5 = .ok (.dup2, 1) := by decide +kernel
theorem dX11_refuseAct_6 : decode cX11_refuseAct 6 = .ok (.iaload, 1) := by decide +kernel
theorem dX11_refuseAct_7 : decode cX11_refuseAct 7 = .ok (.iconst 1, 1) := by decide +kernel
theorem dX11_refuseAct_8 : decode cX11_refuseAct 8 = .ok (.iadd, 1) := by decide +kernel
theorem dX11_refuseAct_9 : decode cX11_refuseAct 9 = .ok (.iastore, 1) := by decide +kernel
theorem dX11_refuseAct_10 : decode cX11_refuseAct 10 = .ok (.iload_n 1, 1) := by decide +kernel
theorem dX11_refuseAct_11 : decode cX11_refuseAct 11 = .ok (.ireturn, 1) := by decide +kernel
theorem dX11_checkRoot_0 : decode cX11_checkRoot 0 = .ok (.iload_n 1, 1) := by decide +kernel
theorem dX11_checkRoot_1 : decode cX11_checkRoot 1 = .ok (.ifCond .lt 14, 3) := by decide +kernel
theorem dX11_checkRoot_4 : decode cX11_checkRoot 4 = .ok (.iload_n 1, 1) := by decide +kernel
theorem dX11_checkRoot_5 : decode cX11_checkRoot 5 = .ok (.aload_n 0, 1) := by decide +kernel
theorem dX11_checkRoot_6 : decode cX11_checkRoot 6 = .ok (.getfield 27, 3) := by decide +kernel
theorem dX11_checkRoot_9 : decode cX11_checkRoot 9 = .ok (.getfield 140, 3) := by decide +kernel
theorem dX11_checkRoot_12 : decode cX11_checkRoot 12 = .ok (.if_icmp .lt 14, 3) := by decide +kernel
theorem dX11_checkRoot_15 : decode cX11_checkRoot 15 = .ok (.new 180, 3) := by decide +kernel
theorem dX11_checkRoot_18 : decode cX11_checkRoot 18 = .ok (.dup, 1) := by decide +kernel
theorem dX11_checkRoot_19 : decode cX11_checkRoot 19 = .ok (.ldc_w 416, 3) := by decide +kernel
theorem dX11_checkRoot_22 : decode cX11_checkRoot 22 = .ok (.invokespecial 184, 3) := by decide +kernel
theorem dX11_checkRoot_25 : decode cX11_checkRoot 25 = .ok (.athrow, 1) := by decide +kernel
theorem dX11_checkRoot_26 : decode cX11_checkRoot 26 = .ok (.return_, 1) := by decide +kernel
theorem dX11_checkHook_0 : decode cX11_checkHook 0 = .ok (.iload_n 1, 1) := by decide +kernel
theorem dX11_checkHook_1 : decode cX11_checkHook 1 = .ok (.ifCond .lt 9, 3) := by decide +kernel
theorem dX11_checkHook_4 : decode cX11_checkHook 4 = .ok (.iload_n 1, 1) := by decide +kernel
theorem dX11_checkHook_5 : decode cX11_checkHook 5 = .ok (.bipush 6, 2) := by decide +kernel
theorem dX11_checkHook_7 : decode cX11_checkHook 7 = .ok (.if_icmp .lt 14, 3) := by decide +kernel
theorem dX11_checkHook_10 : decode cX11_checkHook 10 = .ok (.new 180, 3) := by decide +kernel
theorem dX11_checkHook_13 : decode cX11_checkHook 13 = .ok (.dup, 1) := by decide +kernel
theorem dX11_checkHook_14 : decode cX11_checkHook 14 = .ok (.ldc_w 418, 3) := by decide +kernel
theorem dX11_checkHook_17 : decode cX11_checkHook 17 = .ok (.invokespecial 184, 3) := by decide +kernel
theorem dX11_checkHook_20 : decode cX11_checkHook 20 = .ok (.athrow, 1) := by decide +kernel
theorem dX11_checkHook_21 : decode cX11_checkHook 21 = .ok (.return_, 1) := by decide +kernel
theorem dX11_checkNote_0 : decode cX11_checkNote 0 = .ok (.iload_n 1, 1) := by decide +kernel
theorem dX11_checkNote_1 : decode cX11_checkNote 1 = .ok (.invokestatic 326, 3) := by decide +kernel
theorem dX11_checkNote_4 : decode cX11_checkNote 4 = .ok (.ifCond .ne 14, 3) := by decide +kernel
theorem dX11_checkNote_7 : decode cX11_checkNote 7 = .ok (.new 180, 3) := by decide +kernel
theorem dX11_checkNote_10 : decode cX11_checkNote 10 = .ok (.dup, 1) := by decide +kernel
theorem dX11_checkNote_11 : decode cX11_checkNote 11 = .ok (.ldc_w 420, 3) := by decide +kernel
theorem dX11_checkNote_14 : decode cX11_checkNote 14 = .ok (.invokespecial 184, 3) := by decide +kernel
theorem dX11_checkNote_17 : decode cX11_checkNote 17 = .ok (.athrow, 1) := by decide +kernel
theorem dX11_checkNote_18 : decode cX11_checkNote 18 = .ok (.return_, 1) := by decide +kernel
theorem dX11_checkChange_0 : decode cX11_checkChange 0 = .ok (.iload_n 1, 1) := by decide +kernel
theorem dX11_checkChange_1 : decode cX11_checkChange 1 = .ok (.ifCond .lt 14, 3) := by decide +kernel
theorem dX11_checkChange_4 : decode cX11_checkChange 4 = .ok (.iload_n 1, 1) := by decide +kernel
theorem dX11_checkChange_5 : decode cX11_checkChange 5 = .ok (.aload_n 0, 1) := by decide +kernel
theorem dX11_checkChange_6 : decode cX11_checkChange 6 = .ok (.getfield 27, 3) := by decide +kernel
theorem dX11_checkChange_9 : decode cX11_checkChange 9 = .ok (.getfield 163, 3) := by decide +kernel
theorem dX11_checkChange_12 : decode cX11_checkChange 12 = .ok (.if_icmp .lt 14, 3) := by decide +kernel
theorem dX11_checkChange_15 : decode cX11_checkChange 15 = .ok (.new 180, 3) := by decide +kernel
theorem dX11_checkChange_18 : decode cX11_checkChange 18 = .ok (.dup, 1) := by decide +kernel
theorem dX11_checkChange_19 : decode cX11_checkChange 19 = .ok (.ldc_w 422, 3) := by decide +kernel
theorem dX11_checkChange_22 : decode cX11_checkChange 22 = .ok (.invokespecial 184, 3) := by decide +kernel
theorem dX11_checkChange_25 : decode cX11_checkChange 25 = .ok (.athrow, 1) := by decide +kernel
theorem dX11_checkChange_26 : decode cX11_checkChange 26 = .ok (.return_, 1) := by decide +kernel
theorem dX11_checkTwo_0 : decode cX11_checkTwo 0 = .ok (.iload_n 1, 1) := by decide +kernel
theorem dX11_checkTwo_1 : decode cX11_checkTwo 1 = .ok (.ifCond .lt 8, 3) := by decide +kernel
theorem dX11_checkTwo_4 : decode cX11_checkTwo 4 = .ok (.iload_n 1, 1) := by decide +kernel
theorem dX11_checkTwo_5 : decode cX11_checkTwo 5 = .ok (.iconst 1, 1) := by decide +kernel
theorem dX11_checkTwo_6 : decode cX11_checkTwo 6 = .ok (.if_icmp .le 14, 3) := by decide +kernel
theorem dX11_checkTwo_9 : decode cX11_checkTwo 9 = .ok (.new 180, 3) := by decide +kernel
theorem dX11_checkTwo_12 : decode cX11_checkTwo 12 = .ok (.dup, 1) := by decide +kernel
theorem dX11_checkTwo_13 : decode cX11_checkTwo 13 = .ok (.ldc_w 424, 3) := by decide +kernel
theorem dX11_checkTwo_16 : decode cX11_checkTwo 16 = .ok (.invokespecial 184, 3) := by decide +kernel
theorem dX11_checkTwo_19 : decode cX11_checkTwo 19 = .ok (.athrow, 1) := by decide +kernel
theorem dX11_checkTwo_20 : decode cX11_checkTwo 20 = .ok (.return_, 1) := by decide +kernel
theorem dX11_checkFar_0 : decode cX11_checkFar 0 = .ok (.iload_n 1, 1) := by decide +kernel
theorem dX11_checkFar_1 : decode cX11_checkFar 1 = .ok (.ifCond .lt 9, 3) := by decide +kernel
theorem dX11_checkFar_4 : decode cX11_checkFar 4 = .ok (.iload_n 1, 1) := by decide +kernel
theorem dX11_checkFar_5 : decode cX11_checkFar 5 = .ok (.bipush 60, 2) := by decide +kernel
theorem dX11_checkFar_7 : decode cX11_checkFar 7 = .ok (.if_icmp .le 14, 3) := by decide +kernel
theorem dX11_checkFar_10 : decode cX11_checkFar 10 = .ok (.new 108, 3) := by decide +kernel
theorem dX11_checkFar_13 : decode cX11_checkFar 13 = .ok (.dup, 1) := by decide +kernel
theorem dX11_checkFar_14 : decode cX11_checkFar 14 = .ok (.ldc_w 426, 3) := by decide +kernel
theorem dX11_checkFar_17 : decode cX11_checkFar 17 = .ok (.invokespecial 112, 3) := by decide +kernel
theorem dX11_checkFar_20 : decode cX11_checkFar 20 = .ok (.athrow, 1) := by decide +kernel
theorem dX11_checkFar_21 : decode cX11_checkFar 21 = .ok (.return_, 1) := by decide +kernel
theorem dX11_checkChanges_0 : decode cX11_checkChanges 0 = .ok (.iload_n 1, 1) := by decide +kernel
theorem dX11_checkChanges_1 : decode cX11_checkChanges 1 = .ok (.ifCond .lt 20, 3) := by decide +kernel
theorem dX11_checkChanges_4 : decode cX11_checkChanges 4 = .ok (.iload_n 1, 1) := by decide +kernel
theorem dX11_checkChanges_5 : decode cX11_checkChanges 5 = .ok (.sipush 999, 3) := by decide +kernel
theorem dX11_checkChanges_8 : decode cX11_checkChanges 8 = .ok (.if_icmp .gt 13, 3) := by decide +kernel
theorem dX11_checkChanges_11 : decode cX11_checkChanges 11 = .ok (.aload_n 0, 1) := by decide +kernel
theorem dX11_checkChanges_12 : decode cX11_checkChanges 12 = .ok (.getfield 27, 3) := by decide +kernel
theorem dX11_checkChanges_15 : decode cX11_checkChanges 15 = .ok (.getfield 163, 3) := by decide +kernel
theorem dX11_checkChanges_18 : decode cX11_checkChanges 18 = .ok (.ifCond .ne 14, 3) := by decide +kernel
theorem dX11_checkChanges_21 : decode cX11_checkChanges 21 = .ok (.new 108, 3) := by decide +kernel
theorem dX11_checkChanges_24 : decode cX11_checkChanges 24 = .ok (.dup, 1) := by decide +kernel
theorem dX11_checkChanges_25 : decode cX11_checkChanges 25 = .ok (.ldc_w 428, 3) := by decide +kernel
theorem dX11_checkChanges_28 : decode cX11_checkChanges 28 = .ok (.invokespecial 112, 3) := by decide +kernel
theorem dX11_checkChanges_31 : decode cX11_checkChanges 31 = .ok (.athrow, 1) := by decide +kernel
theorem dX11_checkChanges_32 : decode cX11_checkChanges 32 = .ok (.return_, 1) := by decide +kernel
theorem dX11_isNote_0 : decode cX11_isNote 0 = .ok (.iload_n 0, 1) := by decide +kernel
theorem dX11_isNote_1 : decode cX11_isNote 1 = .ok (.ifCond .lt 13, 3) := by decide +kernel
theorem dX11_isNote_4 : decode cX11_isNote 4 = .ok (.iload_n 0, 1) := by decide +kernel
theorem dX11_isNote_5 : decode cX11_isNote 5 = .ok (.bipush 16, 2) := by decide +kernel
theorem dX11_isNote_7 : decode cX11_isNote 7 = .ok (.if_icmp .ge 7, 3) := by decide +kernel
theorem dX11_isNote_10 : decode cX11_isNote 10 = .ok (.iconst 1, 1) := by decide +kernel
theorem dX11_isNote_11 : decode cX11_isNote 11 = .ok (.goto 4, 3) := by decide +kernel
theorem dX11_isNote_14 : decode cX11_isNote 14 = .ok (.iconst 0, 1) := by decide +kernel
theorem dX11_isNote_15 : decode cX11_isNote 15 = .ok (.ireturn, 1) := by decide +kernel
theorem dX11_isChangeNumber_0 : decode cX11_isChangeNumber 0 = .ok (.iload_n 0, 1) := by decide +kernel
theorem dX11_isChangeNumber_1 : decode cX11_isChangeNumber 1 = .ok (.ifCond .lt 21, 3) := by decide +kernel
theorem dX11_isChangeNumber_4 : decode cX11_isChangeNumber 4 = .ok (.iload_n 0, 1) := by decide +kernel
theorem dX11_isChangeNumber_5 : decode cX11_isChangeNumber 5 = .ok (.bipush 32, 2) := by decide +kernel
theorem dX11_isChangeNumber_7 : decode cX11_isChangeNumber 7 = .ok (.if_icmp .ge 15, 3) := by decide +kernel
theorem dX11_isChangeNumber_10 : decode cX11_isChangeNumber 10 = .ok (.iload_n 0, 1) := by decide +kernel
theorem dX11_isChangeNumber_11 : decode cX11_isChangeNumber 11 = .ok (.iload_n 0, 1) := by decide +kernel
theorem dX11_isChangeNumber_12 : decode cX11_isChangeNumber 12 = .ok (.iconst 1, 1) := by decide +kernel
theorem dX11_isChangeNumber_13 : decode cX11_isChangeNumber 13 = .ok (.ishr, 1) := by decide +kernel
theorem dX11_isChangeNumber_14 : decode cX11_isChangeNumber 14 = .ok (.iand, 1) := by decide +kernel
theorem dX11_isChangeNumber_15 : decode cX11_isChangeNumber 15 = .ok (.ifCond .ne 7, 3) := by decide +kernel
theorem dX11_isChangeNumber_18 : decode cX11_isChangeNumber 18 = .ok (.iconst 1, 1) := by decide +kernel
theorem dX11_isChangeNumber_19 : decode cX11_isChangeNumber 19 = .ok (.goto 4, 3) := by decide +kernel
theorem dX11_isChangeNumber_22 : decode cX11_isChangeNumber 22 = .ok (.iconst 0, 1) := by decide +kernel
theorem dX11_isChangeNumber_23 : decode cX11_isChangeNumber 23 = .ok (.ireturn, 1) := by decide +kernel
theorem dX11_within_0 : decode cX11_within 0 = .ok (.iconst 0, 1) := by decide +kernel
theorem dX11_within_1 : decode cX11_within 1 = .ok (.iload_n 0, 1) := by decide +kernel
theorem dX11_within_2 : decode cX11_within 2 = .ok (.iload_n 1, 1) := by decide +kernel
theorem dX11_within_3 : decode cX11_within 3 = .ok (.invokestatic 430, 3) := by decide +kernel
theorem dX11_within_6 : decode cX11_within 6 = .ok (.invokestatic 435, 3) := by decide +kernel
theorem dX11_within_9 : decode cX11_within 9 = .ok (.ireturn, 1) := by decide +kernel
theorem dX11_bitsAt_0 : decode cX11_bitsAt 0 = .ok (.iconst 0, 1) := by decide +kernel
theorem dX11_bitsAt_1 : decode cX11_bitsAt 1 = .ok (.istore_n 2, 1) := by decide +kernel
theorem dX11_bitsAt_2 : decode cX11_bitsAt 2 = .ok (.iconst 0, 1) := by decide +kernel
theorem dX11_bitsAt_3 : decode cX11_bitsAt 3 = .ok (.istore_n 3, 1) := by decide +kernel
theorem dX11_bitsAt_4 : decode cX11_bitsAt 4 = .ok (.iload_n 3, 1) := by decide +kernel
theorem dX11_bitsAt_5 : decode cX11_bitsAt 5 = .ok (.aload_n 0, 1) := by decide +kernel
theorem dX11_bitsAt_6 : decode cX11_bitsAt 6 = .ok (.getfield 27, 3) := by decide +kernel
theorem dX11_bitsAt_9 : decode cX11_bitsAt 9 = .ok (.getfield 140, 3) := by decide +kernel
theorem dX11_bitsAt_12 : decode cX11_bitsAt 12 = .ok (.if_icmp .ge 31, 3) := by decide +kernel
theorem dX11_bitsAt_15 : decode cX11_bitsAt 15 = .ok (.iload_n 2, 1) := by decide +kernel
theorem dX11_bitsAt_16 : decode cX11_bitsAt 16 = .ok (.aload_n 0, 1) := by decide +kernel
theorem dX11_bitsAt_17 : decode cX11_bitsAt 17 = .ok (.getfield 34, 3) := by decide +kernel
theorem dX11_bitsAt_20 : decode cX11_bitsAt 20 = .ok (.iload_n 3, 1) := by decide +kernel
theorem dX11_bitsAt_21 : decode cX11_bitsAt 21 = .ok (.invokevirtual 204, 3) := by decide +kernel
theorem dX11_bitsAt_24 : decode cX11_bitsAt 24 = .ok (.iload_n 1, 1) := by decide +kernel
theorem dX11_bitsAt_25 : decode cX11_bitsAt 25 = .ok (.if_icmp .ne 9, 3) := by decide +kernel
theorem dX11_bitsAt_28 : decode cX11_bitsAt 28 = .ok (.iconst 1, 1) := by decide +kernel
theorem dX11_bitsAt_29 : decode cX11_bitsAt 29 = .ok (.iload_n 3, 1) := by decide +kernel
theorem dX11_bitsAt_30 : decode cX11_bitsAt 30 = .ok (.ishl, 1) := by decide +kernel
theorem dX11_bitsAt_31 : decode cX11_bitsAt 31 = .ok (.goto 4, 3) := by decide +kernel
theorem dX11_bitsAt_34 : decode cX11_bitsAt 34 = .ok (.iconst 0, 1) := by decide +kernel
theorem dX11_bitsAt_35 : decode cX11_bitsAt 35 = .ok (.ior, 1) := by decide +kernel
theorem dX11_bitsAt_36 : decode cX11_bitsAt 36 = .ok (.istore_n 2, 1) := by decide +kernel
theorem dX11_bitsAt_37 : decode cX11_bitsAt 37 = .ok (.iinc 3 1, 3) := by decide +kernel
theorem dX11_bitsAt_40 : decode cX11_bitsAt 40 = .ok (.goto (-36), 3) := by decide +kernel
theorem dX11_bitsAt_43 : decode cX11_bitsAt 43 = .ok (.iload_n 2, 1) := by decide +kernel
theorem dX11_bitsAt_44 : decode cX11_bitsAt 44 = .ok (.ireturn, 1) := by decide +kernel
theorem dX11_hangingBits_0 : decode cX11_hangingBits 0 = .ok (.iconst 1, 1) := by decide +kernel
theorem dX11_hangingBits_1 : decode cX11_hangingBits 1 = .ok (.aload_n 0, 1) := by decide +kernel
theorem dX11_hangingBits_2 : decode cX11_hangingBits 2 = .ok (.getfield 27, 3) := by decide +kernel
theorem dX11_hangingBits_5 : decode cX11_hangingBits 5 = .ok (.getfield 140, 3) := by decide +kernel
theorem dX11_hangingBits_8 : decode cX11_hangingBits 8 = .ok (.ishl, 1) := by decide +kernel
theorem dX11_hangingBits_9 : decode cX11_hangingBits 9 = .ok (.iconst 1, 1) := by decide +kernel
theorem dX11_hangingBits_10 : decode cX11_hangingBits 10 = .ok (.isub, 1) := by decide +kernel
theorem dX11_hangingBits_11 : decode cX11_hangingBits 11 = .ok (.aload_n 0, 1) := by decide +kernel
theorem dX11_hangingBits_12 : decode cX11_hangingBits 12 = .ok (.iconst (-1), 1) := by decide +kernel
theorem dX11_hangingBits_13 : decode cX11_hangingBits 13 = .ok (.invokevirtual 169, 3) := by decide +kernel
theorem dX11_hangingBits_16 : decode cX11_hangingBits 16 = .ok (.iconst (-1), 1) := by decide +kernel
theorem dX11_hangingBits_17 : decode cX11_hangingBits 17 = .ok (.ixor, 1) := by decide +kernel
theorem dX11_hangingBits_18 : decode cX11_hangingBits 18 = .ok (.iand, 1) := by decide +kernel
theorem dX11_hangingBits_19 : decode cX11_hangingBits 19 = .ok (.aload_n 0, 1) := by decide +kernel
theorem dX11_hangingBits_20 : decode cX11_hangingBits 20 = .ok (.bipush (-2), 2) := by decide +kernel
theorem dX11_hangingBits_22 : decode cX11_hangingBits 22 = .ok (.invokevirtual 169, 3) := by decide +kernel
theorem dX11_hangingBits_25 : decode cX11_hangingBits 25 = .ok (.iconst (-1), 1) := by decide +kernel
theorem dX11_hangingBits_26 : decode cX11_hangingBits 26 = .ok (.ixor, 1) := by decide +kernel
theorem dX11_hangingBits_27 : decode cX11_hangingBits 27 = .ok (.iand, 1) := by decide +kernel
theorem dX11_hangingBits_28 : decode cX11_hangingBits 28 = .ok (.ireturn, 1) := by decide +kernel
theorem dX11_soundingNow_0 : decode cX11_soundingNow 0 = .ok (.aload_n 0, 1) := by decide +kernel
theorem dX11_soundingNow_1 : decode cX11_soundingNow 1 = .ok (.getfield 68, 3) := by decide +kernel
theorem dX11_soundingNow_4 : decode cX11_soundingNow 4 = .ok (.aload_n 0, 1) := by decide +kernel
theorem dX11_soundingNow_5 : decode cX11_soundingNow 5 = .ok (.getfield 27, 3) := by decide +kernel
theorem dX11_soundingNow_8 : decode cX11_soundingNow 8 = .ok (.aload_n 0, 1) := by decide +kernel
theorem dX11_soundingNow_9 : decode cX11_soundingNow 9 = .ok (.getfield 34, 3) := by decide +kernel
theorem dX11_soundingNow_12 : decode cX11_soundingNow 12 = .ok (.iconst 0, 1) := by decide +kernel
theorem dX11_soundingNow_13 : decode cX11_soundingNow 13 = .ok (.invokevirtual 260, 3) := by decide +kernel
theorem dX11_soundingNow_16 : decode cX11_soundingNow 16 = .ok (.aload_n 0, 1) := by decide +kernel
theorem dX11_soundingNow_17 : decode cX11_soundingNow 17 = .ok (.getfield 68, 3) := by decide +kernel
theorem dX11_soundingNow_20 : decode cX11_soundingNow 20 = .ok (.iconst 0, 1) := by decide +kernel
theorem dX11_soundingNow_21 : decode cX11_soundingNow 21 = .ok (.invokevirtual 270, 3) := by decide +kernel
theorem dX11_soundingNow_24 : decode cX11_soundingNow 24 = .ok (.ireturn, 1) := by decide +kernel
theorem dX11_goingOf_0 : decode cX11_goingOf 0 = .ok (.aload_n 0, 1) := by decide +kernel
theorem dX11_goingOf_1 : decode cX11_goingOf 1 = .ok (.getfield 34, 3) := by decide +kernel
theorem dX11_goingOf_4 : decode cX11_goingOf 4 = .ok (.iload_n 1, 1) := by decide +kernel
theorem dX11_goingOf_5 : decode cX11_goingOf 5 = .ok (.invokevirtual 204, 3) := by decide +kernel
theorem dX11_goingOf_8 : decode cX11_goingOf 8 = .ok (.ifCond .ge 5, 3) := by decide +kernel
theorem dX11_goingOf_11 : decode cX11_goingOf 11 = .ok (.iconst (-1), 1) := by decide +kernel
theorem dX11_goingOf_12 : decode cX11_goingOf 12 = .ok (.ireturn, 1) := by decide +kernel
theorem dX11_goingOf_13 : decode cX11_goingOf 13 = .ok (.iconst 0, 1) := by decide +kernel
theorem dX11_goingOf_14 : decode cX11_goingOf 14 = .ok (.istore_n 2, 1) := by decide +kernel
theorem dX11_goingOf_15 : decode cX11_goingOf 15 = .ok (.iload_n 2, 1) := by decide +kernel
theorem dX11_goingOf_16 : decode cX11_goingOf 16 = .ok (.bipush 60, 2) := by decide +kernel
theorem dX11_goingOf_18 : decode cX11_goingOf 18 = .ok (.if_icmp .gt 26, 3) := by decide +kernel
theorem dX11_goingOf_21 : decode cX11_goingOf 21 = .ok (.aload_n 0, 1) := by decide +kernel
theorem dX11_goingOf_22 : decode cX11_goingOf 22 = .ok (.getfield 68, 3) := by decide +kernel
theorem dX11_goingOf_25 : decode cX11_goingOf 25 = .ok (.iload_n 2, 1) := by decide +kernel
theorem dX11_goingOf_26 : decode cX11_goingOf 26 = .ok (.invokevirtual 270, 3) := by decide +kernel
theorem dX11_goingOf_29 : decode cX11_goingOf 29 = .ok (.iload_n 1, 1) := by decide +kernel
theorem dX11_goingOf_30 : decode cX11_goingOf 30 = .ok (.ishr, 1) := by decide +kernel
theorem dX11_goingOf_31 : decode cX11_goingOf 31 = .ok (.iconst 1, 1) := by decide +kernel
theorem dX11_goingOf_32 : decode cX11_goingOf 32 = .ok (.iand, 1) := by decide +kernel
theorem dX11_goingOf_33 : decode cX11_goingOf 33 = .ok (.ifCond .ne 5, 3) := by decide +kernel
theorem dX11_goingOf_36 : decode cX11_goingOf 36 = .ok (.iload_n 2, 1) := by decide +kernel
theorem dX11_goingOf_37 : decode cX11_goingOf 37 = .ok (.ireturn, 1) := by decide +kernel
theorem dX11_goingOf_38 : decode cX11_goingOf 38 = .ok (.iinc 2 1, 3) := by decide +kernel
theorem dX11_goingOf_41 : decode cX11_goingOf 41 = .ok (.goto (-26), 3) := by decide +kernel
theorem dX11_goingOf_44 : decode cX11_goingOf 44 = .ok (.iconst (-1), 1) := by decide +kernel
theorem dX11_goingOf_45 : decode cX11_goingOf 45 = .ok (.ireturn, 1) := by decide +kernel
theorem dX11_goingRank_0 : decode cX11_goingRank 0 = .ok (.aload_n 0, 1) := by decide +kernel
theorem dX11_goingRank_1 : decode cX11_goingRank 1 = .ok (.iload_n 1, 1) := by decide +kernel
theorem dX11_goingRank_2 : decode cX11_goingRank 2 = .ok (.invokevirtual 267, 3) := by decide +kernel
theorem dX11_goingRank_5 : decode cX11_goingRank 5 = .ok (.istore_n 2, 1) := by decide +kernel
theorem dX11_goingRank_6 : decode cX11_goingRank 6 = .ok (.iload_n 2, 1) := by decide +kernel
theorem dX11_goingRank_7 : decode cX11_goingRank 7 = .ok (.iconst (-1), 1) := by decide +kernel
theorem dX11_goingRank_8 : decode cX11_goingRank 8 = .ok (.if_icmp .ne 8, 3) := by decide +kernel
theorem dX11_goingRank_11 : decode cX11_goingRank 11 = .ok (.bipush 61, 2) := by decide +kernel
theorem dX11_goingRank_13 : decode cX11_goingRank 13 = .ok (.goto 4, 3) := by decide +kernel
theorem dX11_goingRank_16 : decode cX11_goingRank 16 = .ok (.iload_n 2, 1) := by decide +kernel
theorem dX11_goingRank_17 : decode cX11_goingRank 17 = .ok (.bipush 10, 2) := by decide +kernel
theorem dX11_goingRank_19 : decode cX11_goingRank 19 = .ok (.imul, 1) := by decide +kernel
theorem dX11_goingRank_20 : decode cX11_goingRank 20 = .ok (.iload_n 1, 1) := by decide +kernel
theorem dX11_goingRank_21 : decode cX11_goingRank 21 = .ok (.iadd, 1) := by decide +kernel
theorem dX11_goingRank_22 : decode cX11_goingRank 22 = .ok (.ireturn, 1) := by decide +kernel
theorem dX11_goingBefore_0 : decode cX11_goingBefore 0 = .ok (.aload_n 0, 1) := by decide +kernel
theorem dX11_goingBefore_1 : decode cX11_goingBefore 1 = .ok (.iload_n 1, 1) := by decide +kernel
theorem dX11_goingBefore_2 : decode cX11_goingBefore 2 = .ok (.invokevirtual 438, 3) := by decide +kernel
theorem dX11_goingBefore_5 : decode cX11_goingBefore 5 = .ok (.istore_n 3, 1) := by decide +kernel
theorem dX11_goingBefore_6 : decode cX11_goingBefore 6 = .ok (.iconst 0, 1) := by decide +kernel
theorem dX11_goingBefore_7 : decode cX11_goingBefore 7 = .ok (.istore 4, 2) := by decide +kernel
theorem dX11_goingBefore_9 : decode cX11_goingBefore 9 = .ok (.iconst 0, 1) := by decide +kernel
theorem dX11_goingBefore_10 : decode cX11_goingBefore 10 = .ok (.istore 5, 2) := by decide +kernel
theorem dX11_goingBefore_12 : decode cX11_goingBefore 12 = .ok (.iload 5, 2) := by decide +kernel
theorem dX11_goingBefore_14 : decode cX11_goingBefore 14 = .ok (.aload_n 0, 1) := by decide +kernel
theorem dX11_goingBefore_15 : decode cX11_goingBefore 15 = .ok (.getfield 27, 3) := by decide +kernel
theorem dX11_goingBefore_18 : decode cX11_goingBefore 18 = .ok (.getfield 140, 3) := by decide +kernel
theorem dX11_goingBefore_21 : decode cX11_goingBefore 21 = .ok (.if_icmp .ge 32, 3) := by decide +kernel
theorem dX11_goingBefore_24 : decode cX11_goingBefore 24 = .ok (.iload_n 2, 1) := by decide +kernel
theorem dX11_goingBefore_25 : decode cX11_goingBefore 25 = .ok (.iload 5, 2) := by decide +kernel
theorem dX11_goingBefore_27 : decode cX11_goingBefore 27 = .ok (.ishr, 1) := by decide +kernel
theorem dX11_goingBefore_28 : decode cX11_goingBefore 28 = .ok (.iconst 1, 1) := by decide +kernel
theorem dX11_goingBefore_29 : decode cX11_goingBefore 29 = .ok (.iand, 1) := by decide +kernel
theorem dX11_goingBefore_30 : decode cX11_goingBefore 30 = .ok (.iconst 1, 1) := by decide +kernel
theorem dX11_goingBefore_31 : decode cX11_goingBefore 31 = .ok (.if_icmp .ne 16, 3) := by decide +kernel
theorem dX11_goingBefore_34 : decode cX11_goingBefore 34 = .ok (.aload_n 0, 1) := by decide +kernel
theorem dX11_goingBefore_35 : decode cX11_goingBefore 35 = .ok (.iload 5, 2) := by decide +kernel
theorem dX11_goingBefore_37 : decode cX11_goingBefore 37 = .ok (.invokevirtual 438, 3) := by decide +kernel
theorem dX11_goingBefore_40 : decode cX11_goingBefore 40 = .ok (.iload_n 3, 1) := by decide +kernel
theorem dX11_goingBefore_41 : decode cX11_goingBefore 41 = .ok (.if_icmp .ge 6, 3) := by decide +kernel
theorem dX11_goingBefore_44 : decode cX11_goingBefore 44 = .ok (.iinc 4 1, 3) := by decide +kernel
theorem dX11_goingBefore_47 : decode cX11_goingBefore 47 = .ok (.iinc 5 1, 3) := by decide +kernel
theorem dX11_goingBefore_50 : decode cX11_goingBefore 50 = .ok (.goto (-38), 3) := by decide +kernel
theorem dX11_goingBefore_53 : decode cX11_goingBefore 53 = .ok (.iload 4, 2) := by decide +kernel
theorem dX11_goingBefore_55 : decode cX11_goingBefore 55 = .ok (.ireturn, 1) := by decide +kernel
theorem dX11_lastDayAmong_0 : decode cX11_lastDayAmong 0 = .ok (.bipush 60, 2) := by decide +kernel
theorem dX11_lastDayAmong_2 : decode cX11_lastDayAmong 2 = .ok (.istore_n 2, 1) := by decide +kernel
theorem dX11_lastDayAmong_3 : decode cX11_lastDayAmong 3 = .ok (.iload_n 2, 1) := by decide +kernel
theorem dX11_lastDayAmong_4 : decode cX11_lastDayAmong 4 = .ok (.ifCond .lt 41, 3) := by decide +kernel
theorem dX11_lastDayAmong_7 : decode cX11_lastDayAmong 7 = .ok (.aload_n 0, 1) := by decide +kernel
theorem dX11_lastDayAmong_8 : decode cX11_lastDayAmong 8 = .ok (.getfield 68, 3) := by decide +kernel
theorem dX11_lastDayAmong_11 : decode cX11_lastDayAmong 11 = .ok (.iload_n 2, 1) := by decide +kernel
theorem dX11_lastDayAmong_12 : decode cX11_lastDayAmong 12 = .ok (.invokevirtual 270, 3) := by decide +kernel
theorem dX11_lastDayAmong_15 : decode cX11_lastDayAmong 15 = .ok (.iload_n 1, 1) := by decide +kernel
theorem dX11_lastDayAmong_16 : decode cX11_lastDayAmong 16 = .ok (.iand, 1) := by decide +kernel
theorem dX11_lastDayAmong_17 : decode cX11_lastDayAmong 17 = .ok (.istore_n 3, 1) := by decide +kernel
theorem dX11_lastDayAmong_18 : decode cX11_lastDayAmong 18 = .ok (.aload_n 0, 1) := by decide +kernel
theorem dX11_lastDayAmong_19 : decode cX11_lastDayAmong 19 = .ok (.getfield 27, 3) := by decide +kernel
theorem dX11_lastDayAmong_22 : decode cX11_lastDayAmong 22 = .ok (.aload_n 0, 1) := by decide +kernel
theorem dX11_lastDayAmong_23 : decode cX11_lastDayAmong 23 = .ok (.getfield 68, 3) := by decide +kernel
theorem dX11_lastDayAmong_26 : decode cX11_lastDayAmong 26 = .ok (.iload_n 2, 1) := by decide +kernel
theorem dX11_lastDayAmong_27 : decode cX11_lastDayAmong 27 = .ok (.iload_n 3, 1) := by decide +kernel
theorem dX11_lastDayAmong_28 : decode cX11_lastDayAmong 28 = .ok (.invokevirtual 172, 3) := by decide +kernel
theorem dX11_lastDayAmong_31 : decode cX11_lastDayAmong 31 = .ok (.invokevirtual 273, 3) := by decide +kernel
theorem dX11_lastDayAmong_34 : decode cX11_lastDayAmong 34 = .ok (.ifCond .eq 5, 3) := by decide +kernel
theorem dX11_lastDayAmong_37 : decode cX11_lastDayAmong 37 = .ok (.iload_n 2, 1) := by decide +kernel
theorem dX11_lastDayAmong_38 : decode cX11_lastDayAmong 38 = .ok (.ireturn, 1) := by decide +kernel
theorem dX11_lastDayAmong_39 : decode cX11_lastDayAmong 39 = .ok (.iinc 2 (-1), 3) := by decide +kernel
theorem dX11_lastDayAmong_42 : decode cX11_lastDayAmong 42 = .ok (.goto (-39), 3) := by decide +kernel
theorem dX11_lastDayAmong_45 : decode cX11_lastDayAmong 45 = .ok (.iconst (-1), 1) := by decide +kernel
theorem dX11_lastDayAmong_46 : decode cX11_lastDayAmong 46 = .ok (.ireturn, 1) := by decide +kernel
theorem dX11_isBeyond_0 : decode cX11_isBeyond 0 = .ok (.aload_n 0, 1) := by decide +kernel
theorem dX11_isBeyond_1 : decode cX11_isBeyond 1 = .ok (.getfield 68, 3) := by decide +kernel
theorem dX11_isBeyond_4 : decode cX11_isBeyond 4 = .ok (.iconst 0, 1) := by decide +kernel
theorem dX11_isBeyond_5 : decode cX11_isBeyond 5 = .ok (.iload_n 1, 1) := by decide +kernel
theorem dX11_isBeyond_6 : decode cX11_isBeyond 6 = .ok (.invokevirtual 264, 3) := by decide +kernel
theorem dX11_isBeyond_9 : decode cX11_isBeyond 9 = .ok (.aload_n 0, 1) := by decide +kernel
theorem dX11_isBeyond_10 : decode cX11_isBeyond 10 = .ok (.getfield 68, 3) := by decide +kernel
theorem dX11_isBeyond_13 : decode cX11_isBeyond 13 = .ok (.iconst 0, 1) := by decide +kernel
theorem dX11_isBeyond_14 : decode cX11_isBeyond 14 = .ok (.iload_n 2, 1) := by decide +kernel
theorem dX11_isBeyond_15 : decode cX11_isBeyond 15 = .ok (.invokevirtual 264, 3) := by decide +kernel
theorem dX11_isBeyond_18 : decode cX11_isBeyond 18 = .ok (.isub, 1) := by decide +kernel
theorem dX11_isBeyond_19 : decode cX11_isBeyond 19 = .ok (.istore 4, 2) := by decide +kernel
theorem dX11_isBeyond_21 : decode cX11_isBeyond 21 = .ok (.iload_n 3, 1) := by decide +kernel
theorem dX11_isBeyond_22 : decode cX11_isBeyond 22 = .ok (.ifCond .ne 16, 3) := by decide +kernel
theorem dX11_isBeyond_25 : decode cX11_isBeyond 25 = .ok (.iload 4, 2) := by decide +kernel
theorem dX11_isBeyond_27 : decode cX11_isBeyond 27 = .ok (.ifCond .ge 7, 3) := by decide +kernel
theorem dX11_isBeyond_30 : decode cX11_isBeyond 30 = .ok (.iconst 1, 1) := by decide +kernel
theorem dX11_isBeyond_31 : decode cX11_isBeyond 31 = .ok (.goto 17, 3) := by decide +kernel
theorem dX11_isBeyond_34 : decode cX11_isBeyond 34 = .ok (.iconst 0, 1) := by decide +kernel
theorem dX11_isBeyond_35 : decode cX11_isBeyond 35 = .ok (.goto 13, 3) := by decide +kernel
theorem dX11_isBeyond_38 : decode cX11_isBeyond 38 = .ok (.iload 4, 2) := by decide +kernel
theorem dX11_isBeyond_40 : decode cX11_isBeyond 40 = .ok (.ifCond .le 7, 3) := by decide +kernel
theorem dX11_isBeyond_43 : decode cX11_isBeyond 43 = .ok (.iconst 1, 1) := by decide +kernel
theorem dX11_isBeyond_44 : decode cX11_isBeyond 44 = .ok (.goto 4, 3) := by decide +kernel
theorem dX11_isBeyond_47 : decode cX11_isBeyond 47 = .ok (.iconst 0, 1) := by decide +kernel
theorem dX11_isBeyond_48 : decode cX11_isBeyond 48 = .ok (.ireturn, 1) := by decide +kernel
theorem dX11_mostChoice_0 : decode cX11_mostChoice 0 = .ok (.aload_n 0, 1) := by decide +kernel
theorem dX11_mostChoice_1 : decode cX11_mostChoice 1 = .ok (.getfield 34, 3) := by decide +kernel
theorem dX11_mostChoice_4 : decode cX11_mostChoice 4 = .ok (.iload_n 1, 1) := by decide +kernel
theorem dX11_mostChoice_5 : decode cX11_mostChoice 5 = .ok (.invokevirtual 207, 3) := by decide +kernel
theorem dX11_mostChoice_8 : decode cX11_mostChoice 8 = .ok (.ifCond .le 7, 3) := by decide +kernel
theorem dX11_mostChoice_11 : decode cX11_mostChoice 11 = .ok (.iconst 1, 1) := by decide +kernel
theorem dX11_mostChoice_12 : decode cX11_mostChoice 12 = .ok (.goto 4, 3) := by decide +kernel
theorem dX11_mostChoice_15 : decode cX11_mostChoice 15 = .ok (.iconst 0, 1) := by decide +kernel
theorem dX11_mostChoice_16 : decode cX11_mostChoice 16 = .ok (.ireturn, 1) := by decide +kernel
theorem dX11_isContent_0 : decode cX11_isContent 0 = .ok (.aload_n 0, 1) := by decide +kernel
theorem dX11_isContent_1 : decode cX11_isContent 1 = .ok (.iload_n 1, 1) := by decide +kernel
theorem dX11_isContent_2 : decode cX11_isContent 2 = .ok (.invokevirtual 362, 3) := by decide +kernel
theorem dX11_isContent_5 : decode cX11_isContent 5 = .ok (.ifCond .eq 26, 3) := by decide +kernel
theorem dX11_isContent_8 : decode cX11_isContent 8 = .ok (.aload_n 0, 1) := by decide +kernel
theorem dX11_isContent_9 : decode cX11_isContent 9 = .ok (.iload_n 1, 1) := by decide +kernel
theorem dX11_isContent_10 : decode cX11_isContent 10 = .ok (.iconst 1, 1) := by decide +kernel
theorem dX11_isContent_11 : decode cX11_isContent 11 = .ok (.iload_n 2, 1) := by decide +kernel
theorem dX11_isContent_12 : decode cX11_isContent 12 = .ok (.isub, 1) := by decide +kernel
theorem dX11_isContent_13 : decode cX11_isContent 13 = .ok (.iload_n 3, 1) := by decide +kernel
theorem dX11_isContent_14 : decode cX11_isContent 14 = .ok (.iload 4, 2) := by decide +kernel
theorem dX11_isContent_16 : decode cX11_isContent 16 = .ok (.invokevirtual 441, 3) := by decide +kernel
theorem dX11_isContent_19 : decode cX11_isContent 19 = .ok (.aload_n 0, 1) := by decide +kernel
theorem dX11_isContent_20 : decode cX11_isContent 20 = .ok (.iload_n 1, 1) := by decide +kernel
theorem dX11_isContent_21 : decode cX11_isContent 21 = .ok (.iload_n 2, 1) := by decide +kernel
theorem dX11_isContent_22 : decode cX11_isContent 22 = .ok (.iload_n 3, 1) := by decide +kernel
theorem dX11_isContent_23 : decode cX11_isContent 23 = .ok (.iload 4, 2) := by decide +kernel
theorem dX11_isContent_25 : decode cX11_isContent 25 = .ok (.invokevirtual 441, 3) := by decide +kernel
theorem dX11_isContent_28 : decode cX11_isContent 28 = .ok (.if_icmp .gt 7, 3) := by decide +kernel
theorem dX11_isContent_31 : decode cX11_isContent 31 = .ok (.iconst 1, 1) := by decide +kernel
theorem dX11_isContent_32 : decode cX11_isContent 32 = .ok (.goto 4, 3) := by decide +kernel
theorem dX11_isContent_35 : decode cX11_isContent 35 = .ok (.iconst 0, 1) := by decide +kernel
theorem dX11_isContent_36 : decode cX11_isContent 36 = .ok (.ireturn, 1) := by decide +kernel
theorem dX11_gainOf_0 : decode cX11_gainOf 0 = .ok (.aload_n 0, 1) := by decide +kernel
theorem dX11_gainOf_1 : decode cX11_gainOf 1 = .ok (.getfield 34, 3) := by decide +kernel
theorem dX11_gainOf_4 : decode cX11_gainOf 4 = .ok (.aload_n 0, 1) := by decide +kernel
theorem dX11_gainOf_5 : decode cX11_gainOf 5 = .ok (.getfield 27, 3) := by decide +kernel
theorem dX11_gainOf_8 : decode cX11_gainOf 8 = .ok (.iload_n 1, 1) := by decide +kernel
theorem dX11_gainOf_9 : decode cX11_gainOf 9 = .ok (.iload_n 2, 1) := by decide +kernel
theorem dX11_gainOf_10 : decode cX11_gainOf 10 = .ok (.invokevirtual 200, 3) := by decide +kernel
theorem dX11_gainOf_13 : decode cX11_gainOf 13 = .ok (.istore 5, 2) := by decide +kernel
theorem dX11_gainOf_15 : decode cX11_gainOf 15 = .ok (.iload 5, 2) := by decide +kernel
theorem dX11_gainOf_17 : decode cX11_gainOf 17 = .ok (.aload_n 0, 1) := by decide +kernel
theorem dX11_gainOf_18 : decode cX11_gainOf 18 = .ok (.getfield 34, 3) := by decide +kernel
theorem dX11_gainOf_21 : decode cX11_gainOf 21 = .ok (.aload_n 0, 1) := by decide +kernel
theorem dX11_gainOf_22 : decode cX11_gainOf 22 = .ok (.getfield 27, 3) := by decide +kernel
theorem dX11_gainOf_25 : decode cX11_gainOf 25 = .ok (.iload_n 3, 1) := by decide +kernel
theorem dX11_gainOf_26 : decode cX11_gainOf 26 = .ok (.iload 4, 2) := by decide +kernel
theorem dX11_gainOf_28 : decode cX11_gainOf 28 = .ok (.invokevirtual 200, 3) := by decide +kernel
theorem dX11_gainOf_31 : decode cX11_gainOf 31 = .ok (.if_icmp .ne 7, 3) := by decide +kernel
theorem dX11_gainOf_34 : decode cX11_gainOf 34 = .ok (.iconst 2, 1) := by decide +kernel
theorem dX11_gainOf_35 : decode cX11_gainOf 35 = .ok (.goto 4, 3) := by decide +kernel
theorem dX11_gainOf_38 : decode cX11_gainOf 38 = .ok (.iconst 0, 1) := by decide +kernel
theorem dX11_gainOf_39 : decode cX11_gainOf 39 = .ok (.istore 6, 2) := by decide +kernel
theorem dX11_gainOf_41 : decode cX11_gainOf 41 = .ok (.aload_n 0, 1) := by decide +kernel
theorem dX11_gainOf_42 : decode cX11_gainOf 42 = .ok (.getfield 27, 3) := by decide +kernel
theorem dX11_gainOf_45 : decode cX11_gainOf 45 = .ok (.iload 5, 2) := by decide +kernel
theorem dX11_gainOf_47 : decode cX11_gainOf 47 = .ok (.invokevirtual 445, 3) := by decide +kernel
theorem dX11_gainOf_50 : decode cX11_gainOf 50 = .ok (.iload 6, 2) := by decide +kernel
theorem dX11_gainOf_52 : decode cX11_gainOf 52 = .ok (.isub, 1) := by decide +kernel
theorem dX11_gainOf_53 : decode cX11_gainOf 53 = .ok (.iload_n 2, 1) := by decide +kernel
theorem dX11_gainOf_54 : decode cX11_gainOf 54 = .ok (.isub, 1) := by decide +kernel
theorem dX11_gainOf_55 : decode cX11_gainOf 55 = .ok (.ireturn, 1) := by decide +kernel
