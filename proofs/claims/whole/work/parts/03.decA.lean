theorem dX0_init_0 : decode cX0_init 0 = .ok (.aload_n 0, 1) := by decide +kernel
theorem dX0_init_1 : decode cX0_init 1 = .ok (.invokespecial 3, 3) := by decide +kernel
theorem dX0_init_4 : decode cX0_init 4 = .ok (.aload_n 0, 1) := by decide +kernel
theorem dX0_init_5 : decode cX0_init 5 = .ok (.new 9, 3) := by decide +kernel
theorem dX0_init_8 : decode cX0_init 8 = .ok (.dup, 1) := by decide +kernel
theorem dX0_init_9 : decode cX0_init 9 = .ok (.invokespecial 11, 3) := by decide +kernel
theorem dX0_init_12 : decode cX0_init 12 = .ok (.putfield 12, 3) := by decide +kernel
theorem dX0_init_15 : decode cX0_init 15 = .ok (.aload_n 0, 1) := by decide +kernel
theorem dX0_init_16 : decode cX0_init 16 = .ok (.bipush 8, 2) := by decide +kernel
theorem dX0_init_18 : decode cX0_init 18 = .ok (.anewarray 18, 3) := by decide +kernel
theorem dX0_init_21 : decode cX0_init 21 = .ok (.putfield 20, 3) := by decide +kernel
theorem dX0_init_24 : decode cX0_init 24 = .ok (.aload_n 0, 1) := by decide +kernel
theorem dX0_init_25 : decode cX0_init 25 = .ok (.iconst 0, 1) := by decide +kernel
theorem dX0_init_26 : decode cX0_init 26 = .ok (.putfield 24, 3) := by decide +kernel
theorem dX0_init_29 : decode cX0_init 29 = .ok (.aload_n 0, 1) := by decide +kernel
theorem dX0_init_30 : decode cX0_init 30 = .ok (.bipush 100, 2) := by decide +kernel
theorem dX0_init_32 : decode cX0_init 32 = .ok (.putfield 28, 3) := by decide +kernel
theorem dX0_init_35 : decode cX0_init 35 = .ok (.aload_n 0, 1) := by decide +kernel
theorem dX0_init_36 : decode cX0_init 36 = .ok (.iconst 3, 1) := by decide +kernel
theorem dX0_init_37 : decode cX0_init 37 = .ok (.putfield 31, 3) := by decide +kernel
theorem dX0_init_40 : decode cX0_init 40 = .ok (.aload_n 0, 1) := by decide +kernel
theorem dX0_init_41 : decode cX0_init 41 = .ok (.iconst 5, 1) := by decide +kernel
theorem dX0_init_42 : decode cX0_init 42 = .ok (.putfield 34, 3) := by decide +kernel
theorem dX0_init_45 : decode cX0_init 45 = .ok (.aload_n 0, 1) := by decide +kernel
theorem dX0_init_46 : decode cX0_init 46 = .ok (.iconst 0, 1) := by decide +kernel
theorem dX0_init_47 : decode cX0_init 47 = .ok (.putfield 37, 3) := by decide +kernel
theorem dX0_init_50 : decode cX0_init 50 = .ok (.aload_n 0, 1) := by decide +kernel
theorem dX0_init_51 : decode cX0_init 51 = .ok (.iconst 0, 1) := by decide +kernel
theorem dX0_init_52 : decode cX0_init 52 = .ok (.putfield 40, 3) := by decide +kernel
theorem dX0_init_55 : decode cX0_init 55 = .ok (.aload_n 0, 1) := by decide +kernel
theorem dX0_init_56 : decode cX0_init 56 = .ok (.iconst 0, 1) := by decide +kernel
theorem dX0_init_57 : decode cX0_init 57 = .ok (.putfield 43, 3) := by decide +kernel
theorem dX0_init_60 : decode cX0_init 60 = .ok (.aload_n 0, 1) := by decide +kernel
theorem dX0_init_61 : decode cX0_init 61 = .ok (.iconst 0, 1) := by decide +kernel
theorem dX0_init_62 : decode cX0_init 62 = .ok (.putfield 46, 3) := by decide +kernel
theorem dX0_init_65 : decode cX0_init 65 = .ok (.aload_n 0, 1) := by decide +kernel
theorem dX0_init_66 : decode cX0_init 66 = .ok (.iconst 1, 1) := by decide +kernel
theorem dX0_init_67 : decode cX0_init 67 = .ok (.putfield 49, 3) := by decide +kernel
theorem dX0_init_70 : decode cX0_init 70 = .ok (.aload_n 0, 1) := by decide +kernel
theorem dX0_init_71 : decode cX0_init 71 = .ok (.iconst 0, 1) := by decide +kernel
theorem dX0_init_72 : decode cX0_init 72 = .ok (.putfield 52, 3) := by decide +kernel
theorem dX0_init_75 : decode cX0_init 75 = .ok (.aload_n 0, 1) := by decide +kernel
theorem dX0_init_76 : decode cX0_init 76 = .ok (.iconst 3, 1) := by decide +kernel
theorem dX0_init_77 : decode cX0_init 77 = .ok (.newarray .int, 2) := by decide +kernel
theorem dX0_init_79 : decode cX0_init 79 = .ok (.dup, 1) := by decide +kernel
theorem dX0_init_80 : decode cX0_init 80 = .ok (.iconst 0, 1) := by decide +kernel
theorem dX0_init_81 : decode cX0_init 81 = .ok (.ldc 55, 2) := by decide +kernel
theorem dX0_init_83 : decode cX0_init 83 = .ok (.iastore, 1) := by decide +kernel
theorem dX0_init_84 : decode cX0_init 84 = .ok (.dup, 1) := by decide +kernel
theorem dX0_init_85 : decode cX0_init 85 = .ok (.iconst 1, 1) := by decide +kernel
theorem dX0_init_86 : decode cX0_init 86 = .ok (.ldc 55, 2) := by decide +kernel
theorem dX0_init_88 : decode cX0_init 88 = .ok (.iastore, 1) := by decide +kernel
theorem dX0_init_89 : decode cX0_init 89 = .ok (.dup, 1) := by decide +kernel
theorem dX0_init_90 : decode cX0_init 90 = .ok (.iconst 2, 1) := by decide +kernel
theorem dX0_init_91 : decode cX0_init 91 = .ok (.ldc 55, 2) := by decide +kernel
theorem dX0_init_93 : decode cX0_init 93 = .ok (.iastore, 1) := by decide +kernel
theorem dX0_init_94 : decode cX0_init 94 = .ok (.putfield 56, 3) := by decide +kernel
theorem dX0_init_97 : decode cX0_init 97 = .ok (.aload_n 0, 1) := by decide +kernel
theorem dX0_init_98 : decode cX0_init 98 = .ok (.bipush 12, 2) := by decide +kernel
theorem dX0_init_100 : decode cX0_init 100 = .ok (.newarray .int, 2) := by decide +kernel
theorem dX0_init_102 : decode cX0_init 102 = .ok (.putfield 60, 3) := by decide +kernel
theorem dX0_init_105 : decode cX0_init 105 = .ok (.aload_n 0, 1) := by decide +kernel
theorem dX0_init_106 : decode cX0_init 106 = .ok (.bipush 12, 2) := by decide +kernel
theorem dX0_init_108 : decode cX0_init 108 = .ok (.newarray .int, 2) := by decide +kernel
theorem dX0_init_110 : decode cX0_init 110 = .ok (.putfield 63, 3) := by decide +kernel
theorem dX0_init_113 : decode cX0_init 113 = .ok (.aload_n 0, 1) := by decide +kernel
theorem dX0_init_114 : decode cX0_init 114 = .ok (.ldc 55, 2) := by decide +kernel
theorem dX0_init_116 : decode cX0_init 116 = .ok (.putfield 66, 3) := by decide +kernel
theorem dX0_init_119 : decode cX0_init 119 = .ok (.aload_n 0, 1) := by decide +kernel
theorem dX0_init_120 : decode cX0_init 120 = .ok (.aload_n 1, 1) := by decide +kernel
theorem dX0_init_121 : decode cX0_init 121 = .ok (.putfield 69, 3) := by decide +kernel
theorem dX0_init_124 : decode cX0_init 124 = .ok (.iconst 0, 1) := by decide +kernel
theorem dX0_init_125 : decode cX0_init 125 = .ok (.istore_n 2, 1) := by decide +kernel
theorem dX0_init_126 : decode cX0_init 126 = .ok (.iload_n 2, 1) := by decide +kernel
theorem dX0_init_127 : decode cX0_init 127 = .ok (.aload_n 0, 1) := by decide +kernel
theorem dX0_init_128 : decode cX0_init 128 = .ok (.getfield 20, 3) := by decide +kernel
theorem dX0_init_131 : decode cX0_init 131 = .ok (.arraylength, 1) := by decide +kernel
theorem dX0_init_132 : decode cX0_init 132 = .ok (.if_icmp .ge 22, 3) := by decide +kernel
theorem dX0_init_135 : decode cX0_init 135 = .ok (.aload_n 0, 1) := by decide +kernel
theorem dX0_init_136 : decode cX0_init 136 = .ok (.getfield 20, 3) := by decide +kernel
theorem dX0_init_139 : decode cX0_init 139 = .ok (.iload_n 2, 1) := by decide +kernel
theorem dX0_init_140 : decode cX0_init 140 = .ok (.new 18, 3) := by decide +kernel
theorem dX0_init_143 : decode cX0_init 143 = .ok (.dup, 1) := by decide +kernel
theorem dX0_init_144 : decode cX0_init 144 = .ok (.invokespecial 73, 3) := by decide +kernel
theorem dX0_init_147 : decode cX0_init 147 = .ok (.aastore, 1) := by decide +kernel
theorem dX0_init_148 : decode cX0_init 148 = .ok (.iinc 2 1, 3) := by decide +kernel
theorem dX0_init_151 : decode cX0_init 151 = .ok (.goto (-25), 3) := by decide +kernel
theorem dX0_init_154 : decode cX0_init 154 = .ok (.return_, 1) := by decide +kernel
theorem dX0_takeFrom_0 : decode cX0_takeFrom 0 = .ok (.aload_n 0, 1) := by decide +kernel
theorem dX0_takeFrom_1 : decode cX0_takeFrom 1 = .ok (.getfield 12, 3) := by decide +kernel
theorem dX0_takeFrom_4 : decode cX0_takeFrom 4 = .ok (.aload_n 1, 1) := by decide +kernel
theorem dX0_takeFrom_5 : decode cX0_takeFrom 5 = .ok (.getfield 12, 3) := by decide +kernel
theorem dX0_takeFrom_8 : decode cX0_takeFrom 8 = .ok (.invokevirtual 74, 3) := by decide +kernel
theorem dX0_takeFrom_11 : decode cX0_takeFrom 11 = .ok (.aload_n 0, 1) := by decide +kernel
theorem dX0_takeFrom_12 : decode cX0_takeFrom 12 = .ok (.aload_n 1, 1) := by decide +kernel
theorem dX0_takeFrom_13 : decode cX0_takeFrom 13 = .ok (.getfield 24, 3) := by decide +kernel
theorem dX0_takeFrom_16 : decode cX0_takeFrom 16 = .ok (.putfield 24, 3) := by decide +kernel
theorem dX0_takeFrom_19 : decode cX0_takeFrom 19 = .ok (.iconst 0, 1) := by decide +kernel
theorem dX0_takeFrom_20 : decode cX0_takeFrom 20 = .ok (.istore_n 2, 1) := by decide +kernel
theorem dX0_takeFrom_21 : decode cX0_takeFrom 21 = .ok (.iload_n 2, 1) := by decide +kernel
theorem dX0_takeFrom_22 : decode cX0_takeFrom 22 = .ok (.aload_n 0, 1) := by decide +kernel
theorem dX0_takeFrom_23 : decode cX0_takeFrom 23 = .ok (.getfield 24, 3) := by decide +kernel
theorem dX0_takeFrom_26 : decode cX0_takeFrom 26 = .ok (.if_icmp .ge 24, 3) := by decide +kernel
theorem dX0_takeFrom_29 : decode cX0_takeFrom 29 = .ok (.aload_n 0, 1) := by decide +kernel
theorem dX0_takeFrom_30 : decode cX0_takeFrom 30 = .ok (.getfield 20, 3) := by decide +kernel
theorem dX0_takeFrom_33 : decode cX0_takeFrom 33 = .ok (.iload_n 2, 1) := by decide +kernel
theorem dX0_takeFrom_34 : decode cX0_takeFrom 34 = .ok (.aaload, 1) := by decide +kernel
theorem dX0_takeFrom_35 : decode cX0_takeFrom 35 = .ok (.aload_n 1, 1) := by decide +kernel
theorem dX0_takeFrom_36 : decode cX0_takeFrom 36 = .ok (.getfield 20, 3) := by decide +kernel
theorem dX0_takeFrom_39 : decode cX0_takeFrom 39 = .ok (.iload_n 2, 1) := by decide +kernel
theorem dX0_takeFrom_40 : decode cX0_takeFrom 40 = .ok (.aaload, 1) := by decide +kernel
theorem dX0_takeFrom_41 : decode cX0_takeFrom 41 = .ok (.invokevirtual 78, 3) := by decide +kernel
theorem dX0_takeFrom_44 : decode cX0_takeFrom 44 = .ok (.iinc 2 1, 3) := by decide +kernel
theorem dX0_takeFrom_47 : decode cX0_takeFrom 47 = .ok (.goto (-26), 3) := by decide +kernel
theorem dX0_takeFrom_50 : decode cX0_takeFrom 50 = .ok (.aload_n 0, 1) := by decide +kernel
theorem dX0_takeFrom_51 : decode cX0_takeFrom 51 = .ok (.aload_n 1, 1) := by decide +kernel
theorem dX0_takeFrom_52 : decode cX0_takeFrom 52 = .ok (.getfield 28, 3) := by decide +kernel
theorem dX0_takeFrom_55 : decode cX0_takeFrom 55 = .ok (.putfield 28, 3) := by decide +kernel
theorem dX0_takeFrom_58 : decode cX0_takeFrom 58 = .ok (.aload_n 0, 1) := by decide +kernel
theorem dX0_takeFrom_59 : decode cX0_takeFrom 59 = .ok (.aload_n 1, 1) := by decide +kernel
theorem dX0_takeFrom_60 : decode cX0_takeFrom 60 = .ok (.getfield 31, 3) := by decide +kernel
theorem dX0_takeFrom_63 : decode cX0_takeFrom 63 = .ok (.putfield 31, 3) := by decide +kernel
theorem dX0_takeFrom_66 : decode cX0_takeFrom 66 = .ok (.aload_n 0, 1) := by decide +kernel
theorem dX0_takeFrom_67 : decode cX0_takeFrom 67 = .ok (.aload_n 1, 1) := by decide +kernel
theorem dX0_takeFrom_68 : decode cX0_takeFrom 68 = .ok (.getfield 34, 3) := by decide +kernel
theorem dX0_takeFrom_71 : decode cX0_takeFrom 71 = .ok (.putfield 34, 3) := by decide +kernel
theorem dX0_takeFrom_74 : decode cX0_takeFrom 74 = .ok (.aload_n 0, 1) := by decide +kernel
theorem dX0_takeFrom_75 : decode cX0_takeFrom 75 = .ok (.aload_n 1, 1) := by decide +kernel
theorem dX0_takeFrom_76 : decode cX0_takeFrom 76 = .ok (.getfield 37, 3) := by decide +kernel
theorem dX0_takeFrom_79 : decode cX0_takeFrom 79 = .ok (.putfield 37, 3) := by decide +kernel
theorem dX0_takeFrom_82 : decode cX0_takeFrom 82 = .ok (.aload_n 0, 1) := by decide +kernel
theorem dX0_takeFrom_83 : decode cX0_takeFrom 83 = .ok (.aload_n 1, 1) := by decide +kernel
theorem dX0_takeFrom_84 : decode cX0_takeFrom 84 = .ok (.getfield 40, 3) := by decide +kernel
theorem dX0_takeFrom_87 : decode cX0_takeFrom 87 = .ok (.putfield 40, 3) := by decide +kernel
theorem dX0_takeFrom_90 : decode cX0_takeFrom 90 = .ok (.aload_n 0, 1) := by decide +kernel
theorem dX0_takeFrom_91 : decode cX0_takeFrom 91 = .ok (.aload_n 1, 1) := by decide +kernel
theorem dX0_takeFrom_92 : decode cX0_takeFrom 92 = .ok (.getfield 43, 3) := by decide +kernel
theorem dX0_takeFrom_95 : decode cX0_takeFrom 95 = .ok (.putfield 43, 3) := by decide +kernel
theorem dX0_takeFrom_98 : decode cX0_takeFrom 98 = .ok (.aload_n 0, 1) := by decide +kernel
theorem dX0_takeFrom_99 : decode cX0_takeFrom 99 = .ok (.aload_n 1, 1) := by decide +kernel
theorem dX0_takeFrom_100 : decode cX0_takeFrom 100 = .ok (.getfield 46, 3) := by decide +kernel
theorem dX0_takeFrom_103 : decode cX0_takeFrom 103 = .ok (.putfield 46, 3) := by decide +kernel
theorem dX0_takeFrom_106 : decode cX0_takeFrom 106 = .ok (.aload_n 0, 1) := by decide +kernel
theorem dX0_takeFrom_107 : decode cX0_takeFrom 107 = .ok (.aload_n 1, 1) := by decide +kernel
theorem dX0_takeFrom_108 : decode cX0_takeFrom 108 = .ok (.getfield 49, 3) := by decide +kernel
theorem dX0_takeFrom_111 : decode cX0_takeFrom 111 = .ok (.putfield 49, 3) := by decide +kernel
theorem dX0_takeFrom_114 : decode cX0_takeFrom 114 = .ok (.aload_n 0, 1) := by decide +kernel
theorem dX0_takeFrom_115 : decode cX0_takeFrom 115 = .ok (.aload_n 1, 1) := by decide +kernel
theorem dX0_takeFrom_116 : decode cX0_takeFrom 116 = .ok (.getfield 52, 3) := by decide +kernel
theorem dX0_takeFrom_119 : decode cX0_takeFrom 119 = .ok (.putfield 52, 3) := by decide +kernel
theorem dX0_takeFrom_122 : decode cX0_takeFrom 122 = .ok (.aload_n 1, 1) := by decide +kernel
theorem dX0_takeFrom_123 : decode cX0_takeFrom 123 = .ok (.getfield 56, 3) := by decide +kernel
theorem dX0_takeFrom_126 : decode cX0_takeFrom 126 = .ok (.iconst 0, 1) := by decide +kernel
theorem dX0_takeFrom_127 : decode cX0_takeFrom 127 = .ok (.aload_n 0, 1) := by decide +kernel
theorem dX0_takeFrom_128 : decode cX0_takeFrom 128 = .ok (.getfield 56, 3) := by decide +kernel
theorem dX0_takeFrom_131 : decode cX0_takeFrom 131 = .ok (.iconst 0, 1) := by decide +kernel
theorem dX0_takeFrom_132 : decode cX0_takeFrom 132 = .ok (.aload_n 0, 1) := by decide +kernel
theorem dX0_takeFrom_133 : decode cX0_takeFrom 133 = .ok (.getfield 56, 3) := by decide +kernel
theorem dX0_takeFrom_136 : decode cX0_takeFrom 136 = .ok (.arraylength, 1) := by decide +kernel
theorem dX0_takeFrom_137 : decode cX0_takeFrom 137 = .ok (.invokestatic 81, 3) := by decide +kernel
theorem dX0_takeFrom_140 : decode cX0_takeFrom 140 = .ok (.return_, 1) := by decide +kernel
theorem dX0_hasWatcher_0 : decode cX0_hasWatcher 0 = .ok (.iload_n 1, 1) := by decide +kernel
theorem dX0_hasWatcher_1 : decode cX0_hasWatcher 1 = .ok (.iconst 0, 1) := by decide +kernel
theorem dX0_hasWatcher_2 : decode cX0_hasWatcher 2 = .ok (.aload_n 0, 1) := by decide +kernel
theorem dX0_hasWatcher_3 : decode cX0_hasWatcher 3 = .ok (.getfield 24, 3) := by decide +kernel
theorem dX0_hasWatcher_6 : decode cX0_hasWatcher 6 = .ok (.iconst 1, 1) := by decide +kernel
theorem dX0_hasWatcher_7 : decode cX0_hasWatcher 7 = .ok (.isub, 1) := by decide +kernel
theorem dX0_hasWatcher_8 : decode cX0_hasWatcher 8 = .ok (.invokestatic 87, 3) := by decide +kernel
theorem dX0_hasWatcher_11 : decode cX0_hasWatcher 11 = .ok (.ireturn, 1) := by decide +kernel
theorem dX0_hires_0 : decode cX0_hires 0 = .ok (.aload_n 0, 1) := by decide +kernel
theorem dX0_hires_1 : decode cX0_hires 1 = .ok (.getfield 24, 3) := by decide +kernel
theorem dX0_hires_4 : decode cX0_hires 4 = .ok (.bipush 8, 2) := by decide +kernel
theorem dX0_hires_6 : decode cX0_hires 6 = .ok (.if_icmp .lt 6, 3) := by decide +kernel
theorem dX0_hires_9 : decode cX0_hires 9 = .ok (.ldc 91, 2) := by decide +kernel
theorem dX0_hires_11 : decode cX0_hires 11 = .ok (.ireturn, 1) := by decide +kernel
theorem dX0_hires_12 : decode cX0_hires 12 = .ok (.aload_n 0, 1) := by decide +kernel
theorem dX0_hires_13 : decode cX0_hires 13 = .ok (.getfield 20, 3) := by decide +kernel
theorem dX0_hires_16 : decode cX0_hires 16 = .ok (.aload_n 0, 1) := by decide +kernel
theorem dX0_hires_17 : decode cX0_hires 17 = .ok (.getfield 24, 3) := by decide +kernel
theorem dX0_hires_20 : decode cX0_hires 20 = .ok (.aaload, 1) := by decide +kernel
theorem dX0_hires_21 : decode cX0_hires 21 = .ok (.astore 4, 2) := by decide +kernel
theorem dX0_hires_23 : decode cX0_hires 23 = .ok (.aload 4, 2) := by decide +kernel
theorem dX0_hires_25 : decode cX0_hires 25 = .ok (.iload_n 1, 1) := by decide +kernel
theorem dX0_hires_26 : decode cX0_hires 26 = .ok (.putfield 92, 3) := by decide +kernel
theorem dX0_hires_29 : decode cX0_hires 29 = .ok (.aload 4, 2) := by decide +kernel
theorem dX0_hires_31 : decode cX0_hires 31 = .ok (.iload_n 2, 1) := by decide +kernel
theorem dX0_hires_32 : decode cX0_hires 32 = .ok (.putfield 95, 3) := by decide +kernel
theorem dX0_hires_35 : decode cX0_hires 35 = .ok (.aload 4, 2) := by decide +kernel
theorem dX0_hires_37 : decode cX0_hires 37 = .ok (.iload_n 3, 1) := by decide +kernel
theorem dX0_hires_38 : decode cX0_hires 38 = .ok (.putfield 98, 3) := by decide +kernel
theorem dX0_hires_41 : decode cX0_hires 41 = .ok (.aload 4, 2) := by decide +kernel
theorem dX0_hires_43 : decode cX0_hires 43 = .ok (.iconst 0, 1) := by decide +kernel
theorem dX0_hires_44 : decode cX0_hires 44 = .ok (.putfield 101, 3) := by decide +kernel
theorem dX0_hires_47 : decode cX0_hires 47 = .ok (.aload 4, 2) := by decide +kernel
theorem dX0_hires_49 : decode cX0_hires 49 = .ok (.iconst 0, 1) := by decide +kernel
theorem dX0_hires_50 : decode cX0_hires 50 = .ok (.putfield 104, 3) := by decide +kernel
theorem dX0_hires_53 : decode cX0_hires 53 = .ok (.aload_n 0, 1) := by decide +kernel
theorem dX0_hires_54 : decode cX0_hires 54 = .ok (.dup, 1) := by decide +kernel
theorem dX0_hires_55 : decode cX0_hires 55 = .ok (.getfield 24, 3) := by decide +kernel
theorem dX0_hires_58 : decode cX0_hires 58 = .ok (.iconst 1, 1) := by decide +kernel
theorem dX0_hires_59 : decode cX0_hires 59 = .ok (.iadd, 1) := by decide +kernel
theorem dX0_hires_60 : decode cX0_hires 60 = .ok (.putfield 24, 3) := by decide +kernel
theorem dX0_hires_63 : decode cX0_hires 63 = .ok (.aload_n 0, 1) := by decide +kernel
theorem dX0_hires_64 : decode cX0_hires 64 = .ok (.getfield 24, 3) := by decide +kernel
theorem dX0_hires_67 : decode cX0_hires 67 = .ok (.iconst 1, 1) := by decide +kernel
theorem dX0_hires_68 : decode cX0_hires 68 = .ok (.isub, 1) := by decide +kernel
theorem dX0_hires_69 : decode cX0_hires 69 = .ok (.ireturn, 1) := by decide +kernel
theorem dX0_draw_0 : decode cX0_draw 0 = .ok (.aload_n 0, 1) := by decide +kernel
theorem dX0_draw_1 : decode cX0_draw 1 = .ok (.aload_n 0, 1) := by decide +kernel
theorem dX0_draw_2 : decode cX0_draw 2 = .ok (.getfield 49, 3) := by decide +kernel
theorem dX0_draw_5 : decode cX0_draw 5 = .ok (.ldc 107, 2) := by decide +kernel
theorem dX0_draw_7 : decode cX0_draw 7 = .ok (.imul, 1) := by decide +kernel
theorem dX0_draw_8 : decode cX0_draw 8 = .ok (.sipush 12345, 3) := by decide +kernel
theorem dX0_draw_11 : decode cX0_draw 11 = .ok (.iadd, 1) := by decide +kernel
theorem dX0_draw_12 : decode cX0_draw 12 = .ok (.putfield 49, 3) := by decide +kernel
theorem dX0_draw_15 : decode cX0_draw 15 = .ok (.aload_n 0, 1) := by decide +kernel
theorem dX0_draw_16 : decode cX0_draw 16 = .ok (.getfield 49, 3) := by decide +kernel
theorem dX0_draw_19 : decode cX0_draw 19 = .ok (.bipush 8, 2) := by decide +kernel
theorem dX0_draw_21 : decode cX0_draw 21 = .ok (.iushr, 1) := by decide +kernel
theorem dX0_draw_22 : decode cX0_draw 22 = .ok (.ireturn, 1) := by decide +kernel
theorem dX0_onMany_0 : decode cX0_onMany 0 = .ok (.iconst 0, 1) := by decide +kernel
theorem dX0_onMany_1 : decode cX0_onMany 1 = .ok (.istore_n 1, 1) := by decide +kernel
theorem dX0_onMany_2 : decode cX0_onMany 2 = .ok (.iconst 0, 1) := by decide +kernel
theorem dX0_onMany_3 : decode cX0_onMany 3 = .ok (.istore_n 2, 1) := by decide +kernel
theorem dX0_onMany_4 : decode cX0_onMany 4 = .ok (.iload_n 2, 1) := by decide +kernel
theorem dX0_onMany_5 : decode cX0_onMany 5 = .ok (.aload_n 0, 1) := by decide +kernel
theorem dX0_onMany_6 : decode cX0_onMany 6 = .ok (.getfield 24, 3) := by decide +kernel
theorem dX0_onMany_9 : decode cX0_onMany 9 = .ok (.if_icmp .ge 21, 3) := by decide +kernel
theorem dX0_onMany_12 : decode cX0_onMany 12 = .ok (.iload_n 1, 1) := by decide +kernel
theorem dX0_onMany_13 : decode cX0_onMany 13 = .ok (.aload_n 0, 1) := by decide +kernel
theorem dX0_onMany_14 : decode cX0_onMany 14 = .ok (.getfield 20, 3) := by decide +kernel
theorem dX0_onMany_17 : decode cX0_onMany 17 = .ok (.iload_n 2, 1) := by decide +kernel
theorem dX0_onMany_18 : decode cX0_onMany 18 = .ok (.aaload, 1) := by decide +kernel
theorem dX0_onMany_19 : decode cX0_onMany 19 = .ok (.getfield 104, 3) := by decide +kernel
theorem dX0_onMany_22 : decode cX0_onMany 22 = .ok (.iadd, 1) := by decide +kernel
theorem dX0_onMany_23 : decode cX0_onMany 23 = .ok (.istore_n 1, 1) := by decide +kernel
theorem dX0_onMany_24 : decode cX0_onMany 24 = .ok (.iinc 2 1, 3) := by decide +kernel
theorem dX0_onMany_27 : decode cX0_onMany 27 = .ok (.goto (-23), 3) := by decide +kernel
theorem dX0_onMany_30 : decode cX0_onMany 30 = .ok (.iload_n 1, 1) := by decide +kernel
theorem dX0_onMany_31 : decode cX0_onMany 31 = .ok (.ireturn, 1) := by decide +kernel
theorem dX0_wakesOnly_0 : decode cX0_wakesOnly 0 = .ok (.iconst 0, 1) := by decide +kernel
theorem dX0_wakesOnly_1 : decode cX0_wakesOnly 1 = .ok (.istore_n 2, 1) := by decide +kernel
theorem dX0_wakesOnly_2 : decode cX0_wakesOnly 2 = .ok (.iload_n 2, 1) := by decide +kernel
theorem dX0_wakesOnly_3 : decode cX0_wakesOnly 3 = .ok (.aload_n 0, 1) := by decide +kernel
theorem dX0_wakesOnly_4 : decode cX0_wakesOnly 4 = .ok (.getfield 24, 3) := by decide +kernel
theorem dX0_wakesOnly_7 : decode cX0_wakesOnly 7 = .ok (.if_icmp .ge 28, 3) := by decide +kernel
theorem dX0_wakesOnly_10 : decode cX0_wakesOnly 10 = .ok (.aload_n 0, 1) := by decide +kernel
theorem dX0_wakesOnly_11 : decode cX0_wakesOnly 11 = .ok (.getfield 20, 3) := by decide +kernel
theorem dX0_wakesOnly_14 : decode cX0_wakesOnly 14 = .ok (.iload_n 2, 1) := by decide +kernel
theorem dX0_wakesOnly_15 : decode cX0_wakesOnly 15 = .ok (.aaload, 1) := by decide +kernel
theorem dX0_wakesOnly_16 : decode cX0_wakesOnly 16 = .ok (.iload_n 2, 1) := by decide +kernel
theorem dX0_wakesOnly_17 : decode cX0_wakesOnly 17 = .ok (.iload_n 1, 1) := by decide +kernel
theorem dX0_wakesOnly_18 : decode cX0_wakesOnly 18 = .ok (.if_icmp .ne 7, 3) := by decide +kernel
theorem dX0_wakesOnly_21 : decode cX0_wakesOnly 21 = .ok (.iconst 1, 1) := by decide +kernel
theorem dX0_wakesOnly_22 : decode cX0_wakesOnly 22 = .ok (.goto 4, 3) := by decide +kernel
theorem dX0_wakesOnly_25 : decode cX0_wakesOnly 25 = .ok (.iconst 0, 1) := by decide +kernel
theorem dX0_wakesOnly_26 : decode cX0_wakesOnly 26 = .ok (.putfield 104, 3) := by decide +kernel
theorem dX0_wakesOnly_29 : decode cX0_wakesOnly 29 = .ok (.iinc 2 1, 3) := by decide +kernel
theorem dX0_wakesOnly_32 : decode cX0_wakesOnly 32 = .ok (.goto (-30), 3) := by decide +kernel
theorem dX0_wakesOnly_35 : decode cX0_wakesOnly 35 = .ok (.return_, 1) := by decide +kernel
theorem dX0_byLaw_0 : decode cX0_byLaw 0 = .ok (.aload_n 0, 1) := by decide +kernel
theorem dX0_byLaw_1 : decode cX0_byLaw 1 = .ok (.getfield 56, 3) := by decide +kernel
theorem dX0_byLaw_4 : decode cX0_byLaw 4 = .ok (.iload_n 1, 1) := by decide +kernel
theorem dX0_byLaw_5 : decode cX0_byLaw 5 = .ok (.iaload, 1) := by decide +kernel
theorem dX0_byLaw_6 : decode cX0_byLaw 6 = .ok (.istore 6, 2) := by decide +kernel
theorem dX0_byLaw_8 : decode cX0_byLaw 8 = .ok (.iload 6, 2) := by decide +kernel
theorem dX0_byLaw_10 : decode cX0_byLaw 10 = .ok (.iconst 0, 1) := by decide +kernel
theorem dX0_byLaw_11 : decode cX0_byLaw 11 = .ok (.aload_n 0, 1) := by decide +kernel
theorem dX0_byLaw_12 : decode cX0_byLaw 12 = .ok (.getfield 52, 3) := by decide +kernel
theorem dX0_byLaw_15 : decode cX0_byLaw 15 = .ok (.iconst 1, 1) := by decide +kernel
theorem dX0_byLaw_16 : decode cX0_byLaw 16 = .ok (.isub, 1) := by decide +kernel
theorem dX0_byLaw_17 : decode cX0_byLaw 17 = .ok (.invokestatic 87, 3) := by decide +kernel
theorem dX0_byLaw_20 : decode cX0_byLaw 20 = .ok (.ifCond .eq 20, 3) := by decide +kernel
theorem dX0_byLaw_23 : decode cX0_byLaw 23 = .ok (.aload_n 0, 1) := by decide +kernel
theorem dX0_byLaw_24 : decode cX0_byLaw 24 = .ok (.getfield 69, 3) := by decide +kernel
theorem dX0_byLaw_27 : decode cX0_byLaw 27 = .ok (.iload 6, 2) := by decide +kernel
theorem dX0_byLaw_29 : decode cX0_byLaw 29 = .ok (.aaload, 1) := by decide +kernel
theorem dX0_byLaw_30 : decode cX0_byLaw 30 = .ok (.iload_n 2, 1) := by decide +kernel
theorem dX0_byLaw_31 : decode cX0_byLaw 31 = .ok (.iload_n 3, 1) := by decide +kernel
theorem dX0_byLaw_32 : decode cX0_byLaw 32 = .ok (.iload 4, 2) := by decide +kernel
theorem dX0_byLaw_34 : decode cX0_byLaw 34 = .ok (.invokevirtual 108, 3) := by decide +kernel
theorem dX0_byLaw_37 : decode cX0_byLaw 37 = .ok (.goto 5, 3) := by decide +kernel
theorem dX0_byLaw_40 : decode cX0_byLaw 40 = .ok (.iload 5, 2) := by decide +kernel
theorem dX0_byLaw_42 : decode cX0_byLaw 42 = .ok (.ireturn, 1) := by decide +kernel
theorem dX0_lightBy_0 : decode cX0_lightBy 0 = .ok (.aload_n 0, 1) := by decide +kernel
theorem dX0_lightBy_1 : decode cX0_lightBy 1 = .ok (.iconst 0, 1) := by decide +kernel
theorem dX0_lightBy_2 : decode cX0_lightBy 2 = .ok (.iload_n 1, 1) := by decide +kernel
theorem dX0_lightBy_3 : decode cX0_lightBy 3 = .ok (.iload_n 2, 1) := by decide +kernel
theorem dX0_lightBy_4 : decode cX0_lightBy 4 = .ok (.aload_n 0, 1) := by decide +kernel
theorem dX0_lightBy_5 : decode cX0_lightBy 5 = .ok (.getfield 28, 3) := by decide +kernel
theorem dX0_lightBy_8 : decode cX0_lightBy 8 = .ok (.iconst 2, 1) := by decide +kernel
theorem dX0_lightBy_9 : decode cX0_lightBy 9 = .ok (.iload_n 1, 1) := by decide +kernel
theorem dX0_lightBy_10 : decode cX0_lightBy 10 = .ok (.imul, 1) := by decide +kernel
theorem dX0_lightBy_11 : decode cX0_lightBy 11 = .ok (.iload_n 2, 1) := by decide +kernel
theorem dX0_lightBy_12 : decode cX0_lightBy 12 = .ok (.iadd, 1) := by decide +kernel
theorem dX0_lightBy_13 : decode cX0_lightBy 13 = .ok (.invokevirtual 114, 3) := by decide +kernel
theorem dX0_lightBy_16 : decode cX0_lightBy 16 = .ok (.iconst 0, 1) := by decide +kernel
theorem dX0_lightBy_17 : decode cX0_lightBy 17 = .ok (.bipush 99, 2) := by decide +kernel
theorem dX0_lightBy_19 : decode cX0_lightBy 19 = .ok (.invokestatic 118, 3) := by decide +kernel
theorem dX0_lightBy_22 : decode cX0_lightBy 22 = .ok (.ireturn, 1) := by decide +kernel
theorem dX0_measure_0 : decode cX0_measure 0 = .ok (.iconst 0, 1) := by decide +kernel
theorem dX0_measure_1 : decode cX0_measure 1 = .ok (.istore_n 1, 1) := by decide +kernel
theorem dX0_measure_2 : decode cX0_measure 2 = .ok (.iload_n 1, 1) := by decide +kernel
theorem dX0_measure_3 : decode cX0_measure 3 = .ok (.aload_n 0, 1) := by decide +kernel
theorem dX0_measure_4 : decode cX0_measure 4 = .ok (.getfield 12, 3) := by decide +kernel
theorem dX0_measure_7 : decode cX0_measure 7 = .ok (.getfield 121, 3) := by decide +kernel
theorem dX0_measure_10 : decode cX0_measure 10 = .ok (.if_icmp .ge 48, 3) := by decide +kernel
theorem dX0_measure_13 : decode cX0_measure 13 = .ok (.aload_n 0, 1) := by decide +kernel
theorem dX0_measure_14 : decode cX0_measure 14 = .ok (.getfield 60, 3) := by decide +kernel
theorem dX0_measure_17 : decode cX0_measure 17 = .ok (.iload_n 1, 1) := by decide +kernel
theorem dX0_measure_18 : decode cX0_measure 18 = .ok (.aload_n 0, 1) := by decide +kernel
theorem dX0_measure_19 : decode cX0_measure 19 = .ok (.aload_n 0, 1) := by decide +kernel
theorem dX0_measure_20 : decode cX0_measure 20 = .ok (.getfield 12, 3) := by decide +kernel
theorem dX0_measure_23 : decode cX0_measure 23 = .ok (.getfield 124, 3) := by decide +kernel
theorem dX0_measure_26 : decode cX0_measure 26 = .ok (.iload_n 1, 1) := by decide +kernel
theorem dX0_measure_27 : decode cX0_measure 27 = .ok (.iaload, 1) := by decide +kernel
theorem dX0_measure_28 : decode cX0_measure 28 = .ok (.aload_n 0, 1) := by decide +kernel
theorem dX0_measure_29 : decode cX0_measure 29 = .ok (.getfield 12, 3) := by decide +kernel
theorem dX0_measure_32 : decode cX0_measure 32 = .ok (.iload_n 1, 1) := by decide +kernel
theorem dX0_measure_33 : decode cX0_measure 33 = .ok (.invokevirtual 127, 3) := by decide +kernel
theorem dX0_measure_36 : decode cX0_measure 36 = .ok (.invokevirtual 131, 3) := by decide +kernel
theorem dX0_measure_39 : decode cX0_measure 39 = .ok (.iastore, 1) := by decide +kernel
theorem dX0_measure_40 : decode cX0_measure 40 = .ok (.aload_n 0, 1) := by decide +kernel
theorem dX0_measure_41 : decode cX0_measure 41 = .ok (.getfield 63, 3) := by decide +kernel
theorem dX0_measure_44 : decode cX0_measure 44 = .ok (.iload_n 1, 1) := by decide +kernel
theorem dX0_measure_45 : decode cX0_measure 45 = .ok (.aload_n 0, 1) := by decide +kernel
theorem dX0_measure_46 : decode cX0_measure 46 = .ok (.getfield 60, 3) := by decide +kernel
theorem dX0_measure_49 : decode cX0_measure 49 = .ok (.iload_n 1, 1) := by decide +kernel
theorem dX0_measure_50 : decode cX0_measure 50 = .ok (.iaload, 1) := by decide +kernel
theorem dX0_measure_51 : decode cX0_measure 51 = .ok (.iastore, 1) := by decide +kernel
theorem dX0_measure_52 : decode cX0_measure 52 = .ok (.iinc 1 1, 3) := by decide +kernel
theorem dX0_measure_55 : decode cX0_measure 55 = .ok (.goto (-53), 3) := by decide +kernel
theorem dX0_measure_58 : decode cX0_measure 58 = .ok (.iconst 0, 1) := by decide +kernel
theorem dX0_measure_59 : decode cX0_measure 59 = .ok (.istore_n 1, 1) := by decide +kernel
theorem dX0_measure_60 : decode cX0_measure 60 = .ok (.iload_n 1, 1) := by decide +kernel
theorem dX0_measure_61 : decode cX0_measure 61 = .ok (.aload_n 0, 1) := by decide +kernel
theorem dX0_measure_62 : decode cX0_measure 62 = .ok (.getfield 24, 3) := by decide +kernel
theorem dX0_measure_65 : decode cX0_measure 65 = .ok (.if_icmp .ge 49, 3) := by decide +kernel
theorem dX0_measure_68 : decode cX0_measure 68 = .ok (.aload_n 0, 1) := by decide +kernel
theorem dX0_measure_69 : decode cX0_measure 69 = .ok (.getfield 20, 3) := by decide +kernel
theorem dX0_measure_72 : decode cX0_measure 72 = .ok (.iload_n 1, 1) := by decide +kernel
theorem dX0_measure_73 : decode cX0_measure 73 = .ok (.aaload, 1) := by decide +kernel
theorem dX0_measure_74 : decode cX0_measure 74 = .ok (.getfield 95, 3) := by decide +kernel
theorem dX0_measure_77 : decode cX0_measure 77 = .ok (.istore_n 2, 1) := by decide +kernel
theorem dX0_measure_78 : decode cX0_measure 78 = .ok (.aload_n 0, 1) := by decide +kernel
theorem dX0_measure_79 : decode cX0_measure 79 = .ok (.getfield 12, 3) := by decide +kernel
theorem dX0_measure_82 : decode cX0_measure 82 = .ok (.iload_n 2, 1) := by decide +kernel
theorem dX0_measure_83 : decode cX0_measure 83 = .ok (.invokevirtual 135, 3) := by decide +kernel
theorem dX0_measure_86 : decode cX0_measure 86 = .ok (.ifCond .eq 22, 3) := by decide +kernel
theorem dX0_measure_89 : decode cX0_measure 89 = .ok (.aload_n 0, 1) := by decide +kernel
theorem dX0_measure_90 : decode cX0_measure 90 = .ok (.getfield 63, 3) := by decide +kernel
theorem dX0_measure_93 : decode cX0_measure 93 = .ok (.iload_n 2, 1) := by decide +kernel
theorem dX0_measure_94 : decode cX0_measure 94 = .ok (.dup2, 1) := by decide +kernel
theorem dX0_measure_95 : decode cX0_measure 95 = .ok (.iaload, 1) := by decide +kernel
theorem dX0_measure_96 : decode cX0_measure 96 = .ok (.aload_n 0, 1) := by decide +kernel
theorem dX0_measure_97 : decode cX0_measure 97 = .ok (.aload_n 0, 1) := by decide +kernel
theorem dX0_measure_98 : decode cX0_measure 98 = .ok (.getfield 20, 3) := by decide +kernel
theorem dX0_measure_101 : decode cX0_measure 101 = .ok (.iload_n 1, 1) := by decide +kernel
theorem dX0_measure_102 : decode cX0_measure 102 = .ok (.aaload, 1) := by decide +kernel
theorem dX0_measure_103 : decode cX0_measure 103 = .ok (.invokevirtual 139, 3) := by decide +kernel
theorem dX0_measure_106 : decode cX0_measure 106 = .ok (.iadd, 1) := by decide +kernel
theorem dX0_measure_107 : decode cX0_measure 107 = .ok (.iastore, 1) := by decide +kernel
theorem dX0_measure_108 : decode cX0_measure 108 = .ok (.iinc 1 1, 3) := by decide +kernel
theorem dX0_measure_111 : decode cX0_measure 111 = .ok (.goto (-51), 3) := by decide +kernel
theorem dX0_measure_114 : decode cX0_measure 114 = .ok (.return_, 1) := by decide +kernel
theorem dX0_sightOf_0 : decode cX0_sightOf 0 = .ok (.aload_n 0, 1) := by decide +kernel
theorem dX0_sightOf_1 : decode cX0_sightOf 1 = .ok (.getfield 12, 3) := by decide +kernel
theorem dX0_sightOf_4 : decode cX0_sightOf 4 = .ok (.aload_n 1, 1) := by decide +kernel
theorem dX0_sightOf_5 : decode cX0_sightOf 5 = .ok (.getfield 95, 3) := by decide +kernel
theorem dX0_sightOf_8 : decode cX0_sightOf 8 = .ok (.invokevirtual 135, 3) := by decide +kernel
theorem dX0_sightOf_11 : decode cX0_sightOf 11 = .ok (.ifCond .eq 31, 3) := by decide +kernel
theorem dX0_sightOf_14 : decode cX0_sightOf 14 = .ok (.aload_n 1, 1) := by decide +kernel
theorem dX0_sightOf_15 : decode cX0_sightOf 15 = .ok (.aload_n 0, 1) := by decide +kernel
theorem dX0_sightOf_16 : decode cX0_sightOf 16 = .ok (.getfield 60, 3) := by decide +kernel
theorem dX0_sightOf_19 : decode cX0_sightOf 19 = .ok (.aload_n 1, 1) := by decide +kernel
theorem dX0_sightOf_20 : decode cX0_sightOf 20 = .ok (.getfield 95, 3) := by decide +kernel
theorem dX0_sightOf_23 : decode cX0_sightOf 23 = .ok (.iaload, 1) := by decide +kernel
theorem dX0_sightOf_24 : decode cX0_sightOf 24 = .ok (.aload_n 0, 1) := by decide +kernel
theorem dX0_sightOf_25 : decode cX0_sightOf 25 = .ok (.getfield 12, 3) := by decide +kernel
theorem dX0_sightOf_28 : decode cX0_sightOf 28 = .ok (.getfield 143, 3) := by decide +kernel
theorem dX0_sightOf_31 : decode cX0_sightOf 31 = .ok (.aload_n 1, 1) := by decide +kernel
theorem dX0_sightOf_32 : decode cX0_sightOf 32 = .ok (.getfield 95, 3) := by decide +kernel
theorem dX0_sightOf_35 : decode cX0_sightOf 35 = .ok (.iaload, 1) := by decide +kernel
theorem dX0_sightOf_36 : decode cX0_sightOf 36 = .ok (.invokevirtual 146, 3) := by decide +kernel
theorem dX0_sightOf_39 : decode cX0_sightOf 39 = .ok (.goto 4, 3) := by decide +kernel
theorem dX0_sightOf_42 : decode cX0_sightOf 42 = .ok (.iconst 0, 1) := by decide +kernel
theorem dX0_sightOf_43 : decode cX0_sightOf 43 = .ok (.ireturn, 1) := by decide +kernel
theorem dX0_fearsOf_0 : decode cX0_fearsOf 0 = .ok (.aload_n 0, 1) := by decide +kernel
theorem dX0_fearsOf_1 : decode cX0_fearsOf 1 = .ok (.getfield 12, 3) := by decide +kernel
theorem dX0_fearsOf_4 : decode cX0_fearsOf 4 = .ok (.iload_n 1, 1) := by decide +kernel
theorem dX0_fearsOf_5 : decode cX0_fearsOf 5 = .ok (.invokevirtual 135, 3) := by decide +kernel
theorem dX0_fearsOf_8 : decode cX0_fearsOf 8 = .ok (.ifCond .ne 5, 3) := by decide +kernel
theorem dX0_fearsOf_11 : decode cX0_fearsOf 11 = .ok (.iconst 0, 1) := by decide +kernel
theorem dX0_fearsOf_12 : decode cX0_fearsOf 12 = .ok (.ireturn, 1) := by decide +kernel
theorem dX0_fearsOf_13 : decode cX0_fearsOf 13 = .ok (.aload_n 0, 1) := by decide +kernel
theorem dX0_fearsOf_14 : decode cX0_fearsOf 14 = .ok (.getfield 12, 3) := by decide +kernel
theorem dX0_fearsOf_17 : decode cX0_fearsOf 17 = .ok (.getfield 149, 3) := by decide +kernel
theorem dX0_fearsOf_20 : decode cX0_fearsOf 20 = .ok (.iload_n 1, 1) := by decide +kernel
theorem dX0_fearsOf_21 : decode cX0_fearsOf 21 = .ok (.iaload, 1) := by decide +kernel
theorem dX0_fearsOf_22 : decode cX0_fearsOf 22 = .ok (.istore_n 2, 1) := by decide +kernel
theorem dX0_fearsOf_23 : decode cX0_fearsOf 23 = .ok (.aload_n 0, 1) := by decide +kernel
theorem dX0_fearsOf_24 : decode cX0_fearsOf 24 = .ok (.iconst 1, 1) := by decide +kernel
theorem dX0_fearsOf_25 : decode cX0_fearsOf 25 = .ok (.aload_n 0, 1) := by decide +kernel
theorem dX0_fearsOf_26 : decode cX0_fearsOf 26 = .ok (.getfield 63, 3) := by decide +kernel
theorem dX0_fearsOf_29 : decode cX0_fearsOf 29 = .ok (.iload_n 1, 1) := by decide +kernel
theorem dX0_fearsOf_30 : decode cX0_fearsOf 30 = .ok (.iaload, 1) := by decide +kernel
theorem dX0_fearsOf_31 : decode cX0_fearsOf 31 = .ok (.iload_n 2, 1) := by decide +kernel
theorem dX0_fearsOf_32 : decode cX0_fearsOf 32 = .ok (.aload_n 0, 1) := by decide +kernel
theorem dX0_fearsOf_33 : decode cX0_fearsOf 33 = .ok (.getfield 34, 3) := by decide +kernel
theorem dX0_fearsOf_36 : decode cX0_fearsOf 36 = .ok (.aload_n 0, 1) := by decide +kernel
theorem dX0_fearsOf_37 : decode cX0_fearsOf 37 = .ok (.getfield 63, 3) := by decide +kernel
theorem dX0_fearsOf_40 : decode cX0_fearsOf 40 = .ok (.iload_n 1, 1) := by decide +kernel
theorem dX0_fearsOf_41 : decode cX0_fearsOf 41 = .ok (.iaload, 1) := by decide +kernel
theorem dX0_fearsOf_42 : decode cX0_fearsOf 42 = .ok (.iload_n 2, 1) := by decide +kernel
theorem dX0_fearsOf_43 : decode cX0_fearsOf 43 = .ok (.iadd, 1) := by decide +kernel
theorem dX0_fearsOf_44 : decode cX0_fearsOf 44 = .ok (.invokevirtual 114, 3) := by decide +kernel
theorem dX0_fearsOf_47 : decode cX0_fearsOf 47 = .ok (.iconst 0, 1) := by decide +kernel
theorem dX0_fearsOf_48 : decode cX0_fearsOf 48 = .ok (.sipush 999, 3) := by decide +kernel
theorem dX0_fearsOf_51 : decode cX0_fearsOf 51 = .ok (.invokestatic 118, 3) := by decide +kernel
theorem dX0_fearsOf_54 : decode cX0_fearsOf 54 = .ok (.ireturn, 1) := by decide +kernel
theorem dX0_leastFeared_0 : decode cX0_leastFeared 0 = .ok (.ldc 55, 2) := by decide +kernel
theorem dX0_leastFeared_2 : decode cX0_leastFeared 2 = .ok (.istore_n 1, 1) := by decide +kernel
theorem dX0_leastFeared_3 : decode cX0_leastFeared 3 = .ok (.iconst 0, 1) := by decide +kernel
theorem dX0_leastFeared_4 : decode cX0_leastFeared 4 = .ok (.istore_n 2, 1) := by decide +kernel
theorem dX0_leastFeared_5 : decode cX0_leastFeared 5 = .ok (.iconst 0, 1) := by decide +kernel
theorem dX0_leastFeared_6 : decode cX0_leastFeared 6 = .ok (.istore_n 3, 1) := by decide +kernel
theorem dX0_leastFeared_7 : decode cX0_leastFeared 7 = .ok (.iload_n 3, 1) := by decide +kernel
theorem dX0_leastFeared_8 : decode cX0_leastFeared 8 = .ok (.aload_n 0, 1) := by decide +kernel
theorem dX0_leastFeared_9 : decode cX0_leastFeared 9 = .ok (.getfield 12, 3) := by decide +kernel
theorem dX0_leastFeared_12 : decode cX0_leastFeared 12 = .ok (.getfield 121, 3) := by decide +kernel
theorem dX0_leastFeared_15 : decode cX0_leastFeared 15 = .ok (.if_icmp .ge 40, 3) := by decide +kernel
theorem dX0_leastFeared_18 : decode cX0_leastFeared 18 = .ok (.aload_n 0, 1) := by decide +kernel
theorem dX0_leastFeared_19 : decode cX0_leastFeared 19 = .ok (.getfield 31, 3) := by decide +kernel
theorem dX0_leastFeared_22 : decode cX0_leastFeared 22 = .ok (.ifCond .le 33, 3) := by decide +kernel
theorem dX0_leastFeared_25 : decode cX0_leastFeared 25 = .ok (.aload_n 0, 1) := by decide +kernel
theorem dX0_leastFeared_26 : decode cX0_leastFeared 26 = .ok (.iload_n 3, 1) := by decide +kernel
theorem dX0_leastFeared_27 : decode cX0_leastFeared 27 = .ok (.invokevirtual 152, 3) := by decide +kernel
theorem dX0_leastFeared_30 : decode cX0_leastFeared 30 = .ok (.istore 4, 2) := by decide +kernel
theorem dX0_leastFeared_32 : decode cX0_leastFeared 32 = .ok (.iload_n 1, 1) := by decide +kernel
theorem dX0_leastFeared_33 : decode cX0_leastFeared 33 = .ok (.ldc 55, 2) := by decide +kernel
theorem dX0_leastFeared_35 : decode cX0_leastFeared 35 = .ok (.if_icmp .eq 9, 3) := by decide +kernel
theorem dX0_leastFeared_38 : decode cX0_leastFeared 38 = .ok (.iload 4, 2) := by decide +kernel
theorem dX0_leastFeared_40 : decode cX0_leastFeared 40 = .ok (.iload_n 2, 1) := by decide +kernel
theorem dX0_leastFeared_41 : decode cX0_leastFeared 41 = .ok (.if_icmp .ge 8, 3) := by decide +kernel
theorem dX0_leastFeared_44 : decode cX0_leastFeared 44 = .ok (.iload_n 3, 1) := by decide +kernel
theorem dX0_leastFeared_45 : decode cX0_leastFeared 45 = .ok (.istore_n 1, 1) := by decide +kernel
theorem dX0_leastFeared_46 : decode cX0_leastFeared 46 = .ok (.iload 4, 2) := by decide +kernel
theorem dX0_leastFeared_48 : decode cX0_leastFeared 48 = .ok (.istore_n 2, 1) := by decide +kernel
theorem dX0_leastFeared_49 : decode cX0_leastFeared 49 = .ok (.iinc 3 1, 3) := by decide +kernel
theorem dX0_leastFeared_52 : decode cX0_leastFeared 52 = .ok (.goto (-45), 3) := by decide +kernel
theorem dX0_leastFeared_55 : decode cX0_leastFeared 55 = .ok (.iload_n 1, 1) := by decide +kernel
theorem dX0_leastFeared_56 : decode cX0_leastFeared 56 = .ok (.ireturn, 1) := by decide +kernel
theorem dX0_cameTold_0 : decode cX0_cameTold 0 = .ok (.aload_n 0, 1) := by decide +kernel
theorem dX0_cameTold_1 : decode cX0_cameTold 1 = .ok (.getfield 66, 3) := by decide +kernel
theorem dX0_cameTold_4 : decode cX0_cameTold 4 = .ok (.ldc 55, 2) := by decide +kernel
theorem dX0_cameTold_6 : decode cX0_cameTold 6 = .ok (.if_icmp .ne 8, 3) := by decide +kernel
theorem dX0_cameTold_9 : decode cX0_cameTold 9 = .ok (.bipush 99, 2) := by decide +kernel
theorem dX0_cameTold_11 : decode cX0_cameTold 11 = .ok (.goto 7, 3) := by decide +kernel
theorem dX0_cameTold_14 : decode cX0_cameTold 14 = .ok (.aload_n 0, 1) := by decide +kernel
theorem dX0_cameTold_15 : decode cX0_cameTold 15 = .ok (.getfield 66, 3) := by decide +kernel
theorem dX0_cameTold_18 : decode cX0_cameTold 18 = .ok (.ireturn, 1) := by decide +kernel
theorem dX0_pass_0 : decode cX0_pass 0 = .ok (.iconst 0, 1) := by decide +kernel
theorem dX0_pass_1 : decode cX0_pass 1 = .ok (.istore_n 2, 1) := by decide +kernel
theorem dX0_pass_2 : decode cX0_pass 2 = .ok (.iload_n 2, 1) := by decide +kernel
theorem dX0_pass_3 : decode cX0_pass 3 = .ok (.iload_n 1, 1) := by decide +kernel
theorem dX0_pass_4 : decode cX0_pass 4 = .ok (.if_icmp .ge 62, 3) := by decide +kernel
theorem dX0_pass_7 : decode cX0_pass 7 = .ok (.aload_n 0, 1) := by decide +kernel
theorem dX0_pass_8 : decode cX0_pass 8 = .ok (.invokevirtual 155, 3) := by decide +kernel
theorem dX0_pass_11 : decode cX0_pass 11 = .ok (.pop, 1) := by decide +kernel
theorem dX0_pass_12 : decode cX0_pass 12 = .ok (.aload_n 0, 1) := by decide +kernel
theorem dX0_pass_13 : decode cX0_pass 13 = .ok (.invokevirtual 159, 3) := by decide +kernel
theorem dX0_pass_16 : decode cX0_pass 16 = .ok (.aload_n 0, 1) := by decide +kernel
theorem dX0_pass_17 : decode cX0_pass 17 = .ok (.aload_n 0, 1) := by decide +kernel
theorem dX0_pass_18 : decode cX0_pass 18 = .ok (.invokevirtual 162, 3) := by decide +kernel
theorem dX0_pass_21 : decode cX0_pass 21 = .ok (.putfield 66, 3) := by decide +kernel
theorem dX0_pass_24 : decode cX0_pass 24 = .ok (.aload_n 0, 1) := by decide +kernel
theorem dX0_pass_25 : decode cX0_pass 25 = .ok (.getfield 12, 3) := by decide +kernel
theorem dX0_pass_28 : decode cX0_pass 28 = .ok (.aload_n 0, 1) := by decide +kernel
theorem dX0_pass_29 : decode cX0_pass 29 = .ok (.getfield 66, 3) := by decide +kernel
theorem dX0_pass_32 : decode cX0_pass 32 = .ok (.invokevirtual 135, 3) := by decide +kernel
theorem dX0_pass_35 : decode cX0_pass 35 = .ok (.ifCond .eq 11, 3) := by decide +kernel
theorem dX0_pass_38 : decode cX0_pass 38 = .ok (.aload_n 0, 1) := by decide +kernel
theorem dX0_pass_39 : decode cX0_pass 39 = .ok (.aload_n 0, 1) := by decide +kernel
theorem dX0_pass_40 : decode cX0_pass 40 = .ok (.getfield 66, 3) := by decide +kernel
theorem dX0_pass_43 : decode cX0_pass 43 = .ok (.invokevirtual 166, 3) := by decide +kernel
theorem dX0_pass_46 : decode cX0_pass 46 = .ok (.aload_n 0, 1) := by decide +kernel
theorem dX0_pass_47 : decode cX0_pass 47 = .ok (.invokevirtual 170, 3) := by decide +kernel
theorem dX0_pass_50 : decode cX0_pass 50 = .ok (.aload_n 0, 1) := by decide +kernel
theorem dX0_pass_51 : decode cX0_pass 51 = .ok (.dup, 1) := by decide +kernel
theorem dX0_pass_52 : decode cX0_pass 52 = .ok (.getfield 37, 3) := by decide +kernel
theorem dX0_pass_55 : decode cX0_pass 55 = .ok (.iconst 1, 1) := by decide +kernel
theorem dX0_pass_56 : decode cX0_pass 56 = .ok (.iadd, 1) := by decide +kernel
theorem dX0_pass_57 : decode cX0_pass 57 = .ok (.putfield 37, 3) := by decide +kernel
theorem dX0_pass_60 : decode cX0_pass 60 = .ok (.iinc 2 1, 3) := by decide +kernel
theorem dX0_pass_63 : decode cX0_pass 63 = .ok (.goto (-61), 3) := by decide +kernel
theorem dX0_pass_66 : decode cX0_pass 66 = .ok (.return_, 1) := by decide +kernel
theorem dX0_burn_0 : decode cX0_burn 0 = .ok (.iconst 0, 1) := by decide +kernel
theorem dX0_burn_1 : decode cX0_burn 1 = .ok (.istore_n 1, 1) := by decide +kernel
theorem dX0_burn_2 : decode cX0_burn 2 = .ok (.iconst 0, 1) := by decide +kernel
theorem dX0_burn_3 : decode cX0_burn 3 = .ok (.istore_n 2, 1) := by decide +kernel
theorem dX0_burn_4 : decode cX0_burn 4 = .ok (.iload_n 2, 1) := by decide +kernel
theorem dX0_burn_5 : decode cX0_burn 5 = .ok (.aload_n 0, 1) := by decide +kernel
theorem dX0_burn_6 : decode cX0_burn 6 = .ok (.getfield 12, 3) := by decide +kernel
theorem dX0_burn_9 : decode cX0_burn 9 = .ok (.getfield 121, 3) := by decide +kernel
theorem dX0_burn_12 : decode cX0_burn 12 = .ok (.if_icmp .ge 73, 3) := by decide +kernel
theorem dX0_burn_15 : decode cX0_burn 15 = .ok (.aload_n 0, 1) := by decide +kernel
theorem dX0_burn_16 : decode cX0_burn 16 = .ok (.getfield 12, 3) := by decide +kernel
theorem dX0_burn_19 : decode cX0_burn 19 = .ok (.getfield 124, 3) := by decide +kernel
theorem dX0_burn_22 : decode cX0_burn 22 = .ok (.iload_n 2, 1) := by decide +kernel
theorem dX0_burn_23 : decode cX0_burn 23 = .ok (.iaload, 1) := by decide +kernel
theorem dX0_burn_24 : decode cX0_burn 24 = .ok (.aload_n 0, 1) := by decide +kernel
theorem dX0_burn_25 : decode cX0_burn 25 = .ok (.getfield 28, 3) := by decide +kernel
theorem dX0_burn_28 : decode cX0_burn 28 = .ok (.if_icmp .le 15, 3) := by decide +kernel
theorem dX0_burn_31 : decode cX0_burn 31 = .ok (.aload_n 0, 1) := by decide +kernel
theorem dX0_burn_32 : decode cX0_burn 32 = .ok (.getfield 12, 3) := by decide +kernel
theorem dX0_burn_35 : decode cX0_burn 35 = .ok (.getfield 124, 3) := by decide +kernel
theorem dX0_burn_38 : decode cX0_burn 38 = .ok (.iload_n 2, 1) := by decide +kernel
theorem dX0_burn_39 : decode cX0_burn 39 = .ok (.iconst 0, 1) := by decide +kernel
theorem dX0_burn_40 : decode cX0_burn 40 = .ok (.iastore, 1) := by decide +kernel
theorem dX0_burn_41 : decode cX0_burn 41 = .ok (.iconst 1, 1) := by decide +kernel
theorem dX0_burn_42 : decode cX0_burn 42 = .ok (.istore_n 1, 1) := by decide +kernel
theorem dX0_burn_43 : decode cX0_burn 43 = .ok (.aload_n 0, 1) := by decide +kernel
theorem dX0_burn_44 : decode cX0_burn 44 = .ok (.dup, 1) := by decide +kernel
theorem dX0_burn_45 : decode cX0_burn 45 = .ok (.getfield 28, 3) := by decide +kernel
theorem dX0_burn_48 : decode cX0_burn 48 = .ok (.aload_n 0, 1) := by decide +kernel
theorem dX0_burn_49 : decode cX0_burn 49 = .ok (.getfield 12, 3) := by decide +kernel
theorem dX0_burn_52 : decode cX0_burn 52 = .ok (.getfield 124, 3) := by decide +kernel
theorem dX0_burn_55 : decode cX0_burn 55 = .ok (.iload_n 2, 1) := by decide +kernel
theorem dX0_burn_56 : decode cX0_burn 56 = .ok (.iaload, 1) := by decide +kernel
theorem dX0_burn_57 : decode cX0_burn 57 = .ok (.isub, 1) := by decide +kernel
theorem dX0_burn_58 : decode cX0_burn 58 = .ok (.putfield 28, 3) := by decide +kernel
theorem dX0_burn_61 : decode cX0_burn 61 = .ok (.aload_n 0, 1) := by decide +kernel
theorem dX0_burn_62 : decode cX0_burn 62 = .ok (.dup, 1) := by decide +kernel
theorem dX0_burn_63 : decode cX0_burn 63 = .ok (.getfield 46, 3) := by decide +kernel
theorem dX0_burn_66 : decode cX0_burn 66 = .ok (.aload_n 0, 1) := by decide +kernel
theorem dX0_burn_67 : decode cX0_burn 67 = .ok (.getfield 12, 3) := by decide +kernel
theorem dX0_burn_70 : decode cX0_burn 70 = .ok (.getfield 124, 3) := by decide +kernel
theorem dX0_burn_73 : decode cX0_burn 73 = .ok (.iload_n 2, 1) := by decide +kernel
theorem dX0_burn_74 : decode cX0_burn 74 = .ok (.iaload, 1) := by decide +kernel
theorem dX0_burn_75 : decode cX0_burn 75 = .ok (.iadd, 1) := by decide +kernel
theorem dX0_burn_76 : decode cX0_burn 76 = .ok (.putfield 46, 3) := by decide +kernel
theorem dX0_burn_79 : decode cX0_burn 79 = .ok (.iinc 2 1, 3) := by decide +kernel
theorem dX0_burn_82 : decode cX0_burn 82 = .ok (.goto (-78), 3) := by decide +kernel
theorem dX0_burn_85 : decode cX0_burn 85 = .ok (.iload_n 1, 1) := by decide +kernel
theorem dX0_burn_86 : decode cX0_burn 86 = .ok (.ireturn, 1) := by decide +kernel
theorem dX0_meet_0 : decode cX0_meet 0 = .ok (.aload_n 0, 1) := by decide +kernel
theorem dX0_meet_1 : decode cX0_meet 1 = .ok (.getfield 63, 3) := by decide +kernel
theorem dX0_meet_4 : decode cX0_meet 4 = .ok (.iload_n 1, 1) := by decide +kernel
theorem dX0_meet_5 : decode cX0_meet 5 = .ok (.iaload, 1) := by decide +kernel
theorem dX0_meet_6 : decode cX0_meet 6 = .ok (.aload_n 0, 1) := by decide +kernel
theorem dX0_meet_7 : decode cX0_meet 7 = .ok (.getfield 31, 3) := by decide +kernel
theorem dX0_meet_10 : decode cX0_meet 10 = .ok (.aload_n 0, 1) := by decide +kernel
theorem dX0_meet_11 : decode cX0_meet 11 = .ok (.getfield 34, 3) := by decide +kernel
theorem dX0_meet_14 : decode cX0_meet 14 = .ok (.iadd, 1) := by decide +kernel
theorem dX0_meet_15 : decode cX0_meet 15 = .ok (.if_icmp .ge 56, 3) := by decide +kernel
theorem dX0_meet_18 : decode cX0_meet 18 = .ok (.aload_n 0, 1) := by decide +kernel
theorem dX0_meet_19 : decode cX0_meet 19 = .ok (.getfield 12, 3) := by decide +kernel
theorem dX0_meet_22 : decode cX0_meet 22 = .ok (.getfield 143, 3) := by decide +kernel
theorem dX0_meet_25 : decode cX0_meet 25 = .ok (.iload_n 1, 1) := by decide +kernel
theorem dX0_meet_26 : decode cX0_meet 26 = .ok (.iaload, 1) := by decide +kernel
theorem dX0_meet_27 : decode cX0_meet 27 = .ok (.ifCond .le 44, 3) := by decide +kernel
theorem dX0_meet_30 : decode cX0_meet 30 = .ok (.aload_n 0, 1) := by decide +kernel
theorem dX0_meet_31 : decode cX0_meet 31 = .ok (.getfield 12, 3) := by decide +kernel
theorem dX0_meet_34 : decode cX0_meet 34 = .ok (.getfield 143, 3) := by decide +kernel
theorem dX0_meet_37 : decode cX0_meet 37 = .ok (.iload_n 1, 1) := by decide +kernel
theorem dX0_meet_38 : decode cX0_meet 38 = .ok (.dup2, 1) := by decide +kernel
theorem dX0_meet_39 : decode cX0_meet 39 = .ok (.iaload, 1) := by decide +kernel
theorem dX0_meet_40 : decode cX0_meet 40 = .ok (.iconst 1, 1) := by decide +kernel
theorem dX0_meet_41 : decode cX0_meet 41 = .ok (.isub, 1) := by decide +kernel
theorem dX0_meet_42 : decode cX0_meet 42 = .ok (.iastore, 1) := by decide +kernel
theorem dX0_meet_43 : decode cX0_meet 43 = .ok (.aload_n 0, 1) := by decide +kernel
theorem dX0_meet_44 : decode cX0_meet 44 = .ok (.getfield 12, 3) := by decide +kernel
theorem dX0_meet_47 : decode cX0_meet 47 = .ok (.getfield 149, 3) := by decide +kernel
theorem dX0_meet_50 : decode cX0_meet 50 = .ok (.iload_n 1, 1) := by decide +kernel
theorem dX0_meet_51 : decode cX0_meet 51 = .ok (.iconst 0, 1) := by decide +kernel
theorem dX0_meet_52 : decode cX0_meet 52 = .ok (.iastore, 1) := by decide +kernel
theorem dX0_meet_53 : decode cX0_meet 53 = .ok (.aload_n 0, 1) := by decide +kernel
theorem dX0_meet_54 : decode cX0_meet 54 = .ok (.dup, 1) := by decide +kernel
theorem dX0_meet_55 : decode cX0_meet 55 = .ok (.getfield 43, 3) := by decide +kernel
theorem dX0_meet_58 : decode cX0_meet 58 = .ok (.iconst 1, 1) := by decide +kernel
theorem dX0_meet_59 : decode cX0_meet 59 = .ok (.iadd, 1) := by decide +kernel
theorem dX0_meet_60 : decode cX0_meet 60 = .ok (.putfield 43, 3) := by decide +kernel
theorem dX0_meet_63 : decode cX0_meet 63 = .ok (.aload_n 0, 1) := by decide +kernel
theorem dX0_meet_64 : decode cX0_meet 64 = .ok (.iconst 0, 1) := by decide +kernel
theorem dX0_meet_65 : decode cX0_meet 65 = .ok (.putfield 34, 3) := by decide +kernel
theorem dX0_meet_68 : decode cX0_meet 68 = .ok (.goto 43, 3) := by decide +kernel
theorem dX0_meet_71 : decode cX0_meet 71 = .ok (.aload_n 0, 1) := by decide +kernel
theorem dX0_meet_72 : decode cX0_meet 72 = .ok (.getfield 12, 3) := by decide +kernel
theorem dX0_meet_75 : decode cX0_meet 75 = .ok (.getfield 149, 3) := by decide +kernel
theorem dX0_meet_78 : decode cX0_meet 78 = .ok (.iload_n 1, 1) := by decide +kernel
theorem dX0_meet_79 : decode cX0_meet 79 = .ok (.bipush 99, 2) := by decide +kernel
theorem dX0_meet_81 : decode cX0_meet 81 = .ok (.aload_n 0, 1) := by decide +kernel
theorem dX0_meet_82 : decode cX0_meet 82 = .ok (.getfield 12, 3) := by decide +kernel
theorem dX0_meet_85 : decode cX0_meet 85 = .ok (.getfield 149, 3) := by decide +kernel
theorem dX0_meet_88 : decode cX0_meet 88 = .ok (.iload_n 1, 1) := by decide +kernel
theorem dX0_meet_89 : decode cX0_meet 89 = .ok (.iaload, 1) := by decide +kernel
theorem dX0_meet_90 : decode cX0_meet 90 = .ok (.iconst 1, 1) := by decide +kernel
theorem dX0_meet_91 : decode cX0_meet 91 = .ok (.iadd, 1) := by decide +kernel
theorem dX0_meet_92 : decode cX0_meet 92 = .ok (.invokestatic 173, 3) := by decide +kernel
theorem dX0_meet_95 : decode cX0_meet 95 = .ok (.iastore, 1) := by decide +kernel
theorem dX0_meet_96 : decode cX0_meet 96 = .ok (.aload_n 0, 1) := by decide +kernel
theorem dX0_meet_97 : decode cX0_meet 97 = .ok (.bipush 99, 2) := by decide +kernel
theorem dX0_meet_99 : decode cX0_meet 99 = .ok (.aload_n 0, 1) := by decide +kernel
theorem dX0_meet_100 : decode cX0_meet 100 = .ok (.getfield 34, 3) := by decide +kernel
theorem dX0_meet_103 : decode cX0_meet 103 = .ok (.iconst 1, 1) := by decide +kernel
theorem dX0_meet_104 : decode cX0_meet 104 = .ok (.iadd, 1) := by decide +kernel
theorem dX0_meet_105 : decode cX0_meet 105 = .ok (.invokestatic 173, 3) := by decide +kernel
theorem dX0_meet_108 : decode cX0_meet 108 = .ok (.putfield 34, 3) := by decide +kernel
theorem dX0_meet_111 : decode cX0_meet 111 = .ok (.return_, 1) := by decide +kernel
theorem dX0_tire_0 : decode cX0_tire 0 = .ok (.iconst 0, 1) := by decide +kernel
theorem dX0_tire_1 : decode cX0_tire 1 = .ok (.istore_n 1, 1) := by decide +kernel
theorem dX0_tire_2 : decode cX0_tire 2 = .ok (.iload_n 1, 1) := by decide +kernel
theorem dX0_tire_3 : decode cX0_tire 3 = .ok (.aload_n 0, 1) := by decide +kernel
theorem dX0_tire_4 : decode cX0_tire 4 = .ok (.getfield 24, 3) := by decide +kernel
theorem dX0_tire_7 : decode cX0_tire 7 = .ok (.if_icmp .ge 89, 3) := by decide +kernel
theorem dX0_tire_10 : decode cX0_tire 10 = .ok (.aload_n 0, 1) := by decide +kernel
theorem dX0_tire_11 : decode cX0_tire 11 = .ok (.getfield 20, 3) := by decide +kernel
theorem dX0_tire_14 : decode cX0_tire 14 = .ok (.iload_n 1, 1) := by decide +kernel
theorem dX0_tire_15 : decode cX0_tire 15 = .ok (.aaload, 1) := by decide +kernel
theorem dX0_tire_16 : decode cX0_tire 16 = .ok (.astore_n 2, 1) := by decide +kernel
theorem dX0_tire_17 : decode cX0_tire 17 = .ok (.aload_n 2, 1) := by decide +kernel
theorem dX0_tire_18 : decode cX0_tire 18 = .ok (.getfield 104, 3) := by decide +kernel
theorem dX0_tire_21 : decode cX0_tire 21 = .ok (.iconst 1, 1) := by decide +kernel
theorem dX0_tire_22 : decode cX0_tire 22 = .ok (.if_icmp .ne 44, 3) := by decide +kernel
theorem dX0_tire_25 : decode cX0_tire 25 = .ok (.aload_n 0, 1) := by decide +kernel
theorem dX0_tire_26 : decode cX0_tire 26 = .ok (.iconst 2, 1) := by decide +kernel
theorem dX0_tire_27 : decode cX0_tire 27 = .ok (.aload_n 2, 1) := by decide +kernel
theorem dX0_tire_28 : decode cX0_tire 28 = .ok (.getfield 101, 3) := by decide +kernel
theorem dX0_tire_31 : decode cX0_tire 31 = .ok (.aload_n 2, 1) := by decide +kernel
theorem dX0_tire_32 : decode cX0_tire 32 = .ok (.getfield 98, 3) := by decide +kernel
theorem dX0_tire_35 : decode cX0_tire 35 = .ok (.iconst 0, 1) := by decide +kernel
theorem dX0_tire_36 : decode cX0_tire 36 = .ok (.iconst 1, 1) := by decide +kernel
theorem dX0_tire_37 : decode cX0_tire 37 = .ok (.invokevirtual 114, 3) := by decide +kernel
theorem dX0_tire_40 : decode cX0_tire 40 = .ok (.iconst 0, 1) := by decide +kernel
theorem dX0_tire_41 : decode cX0_tire 41 = .ok (.bipush 99, 2) := by decide +kernel
theorem dX0_tire_43 : decode cX0_tire 43 = .ok (.invokestatic 118, 3) := by decide +kernel
theorem dX0_tire_46 : decode cX0_tire 46 = .ok (.istore_n 3, 1) := by decide +kernel
theorem dX0_tire_47 : decode cX0_tire 47 = .ok (.aload_n 2, 1) := by decide +kernel
theorem dX0_tire_48 : decode cX0_tire 48 = .ok (.sipush 999, 3) := by decide +kernel
theorem dX0_tire_51 : decode cX0_tire 51 = .ok (.aload_n 2, 1) := by decide +kernel
theorem dX0_tire_52 : decode cX0_tire 52 = .ok (.getfield 101, 3) := by decide +kernel
theorem dX0_tire_55 : decode cX0_tire 55 = .ok (.iload_n 3, 1) := by decide +kernel
theorem dX0_tire_56 : decode cX0_tire 56 = .ok (.iadd, 1) := by decide +kernel
theorem dX0_tire_57 : decode cX0_tire 57 = .ok (.invokestatic 173, 3) := by decide +kernel
theorem dX0_tire_60 : decode cX0_tire 60 = .ok (.putfield 101, 3) := by decide +kernel
theorem dX0_tire_63 : decode cX0_tire 63 = .ok (.goto 27, 3) := by decide +kernel
theorem dX0_tire_66 : decode cX0_tire 66 = .ok (.aload_n 2, 1) := by decide +kernel
theorem dX0_tire_67 : decode cX0_tire 67 = .ok (.iconst 0, 1) := by decide +kernel
theorem dX0_tire_68 : decode cX0_tire 68 = .ok (.aload_n 2, 1) := by decide +kernel
theorem dX0_tire_69 : decode cX0_tire 69 = .ok (.getfield 101, 3) := by decide +kernel
theorem dX0_tire_72 : decode cX0_tire 72 = .ok (.iconst 2, 1) := by decide +kernel
theorem dX0_tire_73 : decode cX0_tire 73 = .ok (.isub, 1) := by decide +kernel
theorem dX0_tire_74 : decode cX0_tire 74 = .ok (.invokestatic 178, 3) := by decide +kernel
theorem dX0_tire_77 : decode cX0_tire 77 = .ok (.putfield 101, 3) := by decide +kernel
theorem dX0_tire_80 : decode cX0_tire 80 = .ok (.aload_n 0, 1) := by decide +kernel
theorem dX0_tire_81 : decode cX0_tire 81 = .ok (.dup, 1) := by decide +kernel
theorem dX0_tire_82 : decode cX0_tire 82 = .ok (.getfield 40, 3) := by decide +kernel
theorem dX0_tire_85 : decode cX0_tire 85 = .ok (.iconst 1, 1) := by decide +kernel
theorem dX0_tire_86 : decode cX0_tire 86 = .ok (.iadd, 1) := by decide +kernel
theorem dX0_tire_87 : decode cX0_tire 87 = .ok (.putfield 40, 3) := by decide +kernel
theorem dX0_tire_90 : decode cX0_tire 90 = .ok (.iinc 1 1, 3) := by decide +kernel
theorem dX0_tire_93 : decode cX0_tire 93 = .ok (.goto (-91), 3) := by decide +kernel
theorem dX0_tire_96 : decode cX0_tire 96 = .ok (.return_, 1) := by decide +kernel
theorem dX1_init_0 : decode cX1_init 0 = .ok (.aload_n 0, 1) := by decide +kernel
theorem dX1_init_1 : decode cX1_init 1 = .ok (.invokespecial 5, 3) := by decide +kernel
theorem dX1_init_4 : decode cX1_init 4 = .ok (.aload_n 0, 1) := by decide +kernel
theorem dX1_init_5 : decode cX1_init 5 = .ok (.bipush 28, 2) := by decide +kernel
theorem dX1_init_7 : decode cX1_init 7 = .ok (.newarray .int, 2) := by decide +kernel
theorem dX1_init_9 : decode cX1_init 9 = .ok (.putfield 11, 3) := by decide +kernel
theorem dX1_init_12 : decode cX1_init 12 = .ok (.aload_n 0, 1) := by decide +kernel
theorem dX1_init_13 : decode cX1_init 13 = .ok (.iconst 0, 1) := by decide +kernel
theorem dX1_init_14 : decode cX1_init 14 = .ok (.putfield 15, 3) := by decide +kernel
theorem dX1_init_17 : decode cX1_init 17 = .ok (.aload_n 0, 1) := by decide +kernel
theorem dX1_init_18 : decode cX1_init 18 = .ok (.iconst 0, 1) := by decide +kernel
theorem dX1_init_19 : decode cX1_init 19 = .ok (.putfield 19, 3) := by decide +kernel
theorem dX1_init_22 : decode cX1_init 22 = .ok (.aload_n 0, 1) := by decide +kernel
theorem dX1_init_23 : decode cX1_init 23 = .ok (.iconst 0, 1) := by decide +kernel
theorem dX1_init_24 : decode cX1_init 24 = .ok (.putfield 22, 3) := by decide +kernel
theorem dX1_init_27 : decode cX1_init 27 = .ok (.return_, 1) := by decide +kernel
theorem dX1_runOn_0 : decode cX1_runOn 0 = .ok (.iconst 0, 1) := by decide +kernel
theorem dX1_runOn_1 : decode cX1_runOn 1 = .ok (.istore_n 3, 1) := by decide +kernel
theorem dX1_runOn_2 : decode cX1_runOn 2 = .ok (.iload_n 3, 1) := by decide +kernel
theorem dX1_runOn_3 : decode cX1_runOn 3 = .ok (.aload_n 0, 1) := by decide +kernel
theorem dX1_runOn_4 : decode cX1_runOn 4 = .ok (.getfield 11, 3) := by decide +kernel
theorem dX1_runOn_7 : decode cX1_runOn 7 = .ok (.arraylength, 1) := by decide +kernel
theorem dX1_runOn_8 : decode cX1_runOn 8 = .ok (.if_icmp .ge 27, 3) := by decide +kernel
theorem dX1_runOn_11 : decode cX1_runOn 11 = .ok (.aload_n 0, 1) := by decide +kernel
theorem dX1_runOn_12 : decode cX1_runOn 12 = .ok (.getfield 11, 3) := by decide +kernel
theorem dX1_runOn_15 : decode cX1_runOn 15 = .ok (.iload_n 3, 1) := by decide +kernel
theorem dX1_runOn_16 : decode cX1_runOn 16 = .ok (.aload_n 1, 1) := by decide +kernel
theorem dX1_runOn_17 : decode cX1_runOn 17 = .ok (.iload_n 3, 1) := by decide +kernel
theorem dX1_runOn_18 : decode cX1_runOn 18 = .ok (.bipush 7, 2) := by decide +kernel
theorem dX1_runOn_20 : decode cX1_runOn 20 = .ok (.idiv, 1) := by decide +kernel
theorem dX1_runOn_21 : decode cX1_runOn 21 = .ok (.iload_n 3, 1) := by decide +kernel
theorem dX1_runOn_22 : decode cX1_runOn 22 = .ok (.bipush 7, 2) := by decide +kernel
theorem dX1_runOn_24 : decode cX1_runOn 24 = .ok (.irem, 1) := by decide +kernel
theorem dX1_runOn_25 : decode cX1_runOn 25 = .ok (.invokevirtual 25, 3) := by decide +kernel
theorem dX1_runOn_28 : decode cX1_runOn 28 = .ok (.iastore, 1) := by decide +kernel
theorem dX1_runOn_29 : decode cX1_runOn 29 = .ok (.iinc 3 1, 3) := by decide +kernel
theorem dX1_runOn_32 : decode cX1_runOn 32 = .ok (.goto (-30), 3) := by decide +kernel
theorem dX1_runOn_35 : decode cX1_runOn 35 = .ok (.aload_n 0, 1) := by decide +kernel
theorem dX1_runOn_36 : decode cX1_runOn 36 = .ok (.iconst (-1), 1) := by decide +kernel
theorem dX1_runOn_37 : decode cX1_runOn 37 = .ok (.putfield 15, 3) := by decide +kernel
theorem dX1_runOn_40 : decode cX1_runOn 40 = .ok (.aload_n 1, 1) := by decide +kernel
theorem dX1_runOn_41 : decode cX1_runOn 41 = .ok (.getfield 31, 3) := by decide +kernel
theorem dX1_runOn_44 : decode cX1_runOn 44 = .ok (.getfield 35, 3) := by decide +kernel
theorem dX1_runOn_47 : decode cX1_runOn 47 = .ok (.bipush 6, 2) := by decide +kernel
theorem dX1_runOn_49 : decode cX1_runOn 49 = .ok (.invokestatic 40, 3) := by decide +kernel
theorem dX1_runOn_52 : decode cX1_runOn 52 = .ok (.istore_n 3, 1) := by decide +kernel
theorem dX1_runOn_53 : decode cX1_runOn 53 = .ok (.iconst 0, 1) := by decide +kernel
theorem dX1_runOn_54 : decode cX1_runOn 54 = .ok (.istore 4, 2) := by decide +kernel
theorem dX1_runOn_56 : decode cX1_runOn 56 = .ok (.iload 4, 2) := by decide +kernel
theorem dX1_runOn_58 : decode cX1_runOn 58 = .ok (.iconst 1, 1) := by decide +kernel
theorem dX1_runOn_59 : decode cX1_runOn 59 = .ok (.iconst 2, 1) := by decide +kernel
theorem dX1_runOn_60 : decode cX1_runOn 60 = .ok (.iload_n 3, 1) := by decide +kernel
theorem dX1_runOn_61 : decode cX1_runOn 61 = .ok (.imul, 1) := by decide +kernel
theorem dX1_runOn_62 : decode cX1_runOn 62 = .ok (.ishl, 1) := by decide +kernel
theorem dX1_runOn_63 : decode cX1_runOn 63 = .ok (.if_icmp .ge 84, 3) := by decide +kernel
theorem dX1_runOn_66 : decode cX1_runOn 66 = .ok (.aload_n 0, 1) := by decide +kernel
theorem dX1_runOn_67 : decode cX1_runOn 67 = .ok (.aload_n 1, 1) := by decide +kernel
theorem dX1_runOn_68 : decode cX1_runOn 68 = .ok (.getfield 31, 3) := by decide +kernel
theorem dX1_runOn_71 : decode cX1_runOn 71 = .ok (.iload_n 3, 1) := by decide +kernel
theorem dX1_runOn_72 : decode cX1_runOn 72 = .ok (.iload 4, 2) := by decide +kernel
theorem dX1_runOn_74 : decode cX1_runOn 74 = .ok (.invokevirtual 45, 3) := by decide +kernel
theorem dX1_runOn_77 : decode cX1_runOn 77 = .ok (.istore 5, 2) := by decide +kernel
theorem dX1_runOn_79 : decode cX1_runOn 79 = .ok (.iload 5, 2) := by decide +kernel
theorem dX1_runOn_81 : decode cX1_runOn 81 = .ok (.iload_n 2, 1) := by decide +kernel
theorem dX1_runOn_82 : decode cX1_runOn 82 = .ok (.if_icmp .gt 59, 3) := by decide +kernel
theorem dX1_runOn_85 : decode cX1_runOn 85 = .ok (.aload_n 0, 1) := by decide +kernel
theorem dX1_runOn_86 : decode cX1_runOn 86 = .ok (.aload_n 1, 1) := by decide +kernel
theorem dX1_runOn_87 : decode cX1_runOn 87 = .ok (.getfield 31, 3) := by decide +kernel
theorem dX1_runOn_90 : decode cX1_runOn 90 = .ok (.iload_n 3, 1) := by decide +kernel
theorem dX1_runOn_91 : decode cX1_runOn 91 = .ok (.invokevirtual 49, 3) := by decide +kernel
theorem dX1_runOn_94 : decode cX1_runOn 94 = .ok (.istore 6, 2) := by decide +kernel
theorem dX1_runOn_96 : decode cX1_runOn 96 = .ok (.iload 6, 2) := by decide +kernel
theorem dX1_runOn_98 : decode cX1_runOn 98 = .ok (.aload_n 0, 1) := by decide +kernel
theorem dX1_runOn_99 : decode cX1_runOn 99 = .ok (.getfield 15, 3) := by decide +kernel
theorem dX1_runOn_102 : decode cX1_runOn 102 = .ok (.if_icmp .gt 21, 3) := by decide +kernel
theorem dX1_runOn_105 : decode cX1_runOn 105 = .ok (.iload 6, 2) := by decide +kernel
theorem dX1_runOn_107 : decode cX1_runOn 107 = .ok (.aload_n 0, 1) := by decide +kernel
theorem dX1_runOn_108 : decode cX1_runOn 108 = .ok (.getfield 15, 3) := by decide +kernel
theorem dX1_runOn_111 : decode cX1_runOn 111 = .ok (.if_icmp .ne 30, 3) := by decide +kernel
theorem dX1_runOn_114 : decode cX1_runOn 114 = .ok (.iload 5, 2) := by decide +kernel
theorem dX1_runOn_116 : decode cX1_runOn 116 = .ok (.aload_n 0, 1) := by decide +kernel
theorem dX1_runOn_117 : decode cX1_runOn 117 = .ok (.getfield 19, 3) := by decide +kernel
theorem dX1_runOn_120 : decode cX1_runOn 120 = .ok (.if_icmp .ge 21, 3) := by decide +kernel
theorem dX1_runOn_123 : decode cX1_runOn 123 = .ok (.aload_n 0, 1) := by decide +kernel
theorem dX1_runOn_124 : decode cX1_runOn 124 = .ok (.iload 6, 2) := by decide +kernel
theorem dX1_runOn_126 : decode cX1_runOn 126 = .ok (.putfield 15, 3) := by decide +kernel
theorem dX1_runOn_129 : decode cX1_runOn 129 = .ok (.aload_n 0, 1) := by decide +kernel
theorem dX1_runOn_130 : decode cX1_runOn 130 = .ok (.iload 5, 2) := by decide +kernel
theorem dX1_runOn_132 : decode cX1_runOn 132 = .ok (.putfield 19, 3) := by decide +kernel
theorem dX1_runOn_135 : decode cX1_runOn 135 = .ok (.aload_n 0, 1) := by decide +kernel
theorem dX1_runOn_136 : decode cX1_runOn 136 = .ok (.iload 4, 2) := by decide +kernel
theorem dX1_runOn_138 : decode cX1_runOn 138 = .ok (.putfield 22, 3) := by decide +kernel
theorem dX1_runOn_141 : decode cX1_runOn 141 = .ok (.iinc 4 1, 3) := by decide +kernel
theorem dX1_runOn_144 : decode cX1_runOn 144 = .ok (.goto (-88), 3) := by decide +kernel
theorem dX1_runOn_147 : decode cX1_runOn 147 = .ok (.return_, 1) := by decide +kernel
theorem dX1_putFires_0 : decode cX1_putFires 0 = .ok (.iconst 0, 1) := by decide +kernel
theorem dX1_putFires_1 : decode cX1_putFires 1 = .ok (.istore 4, 2) := by decide +kernel
theorem dX1_putFires_3 : decode cX1_putFires 3 = .ok (.iload_n 3, 1) := by decide +kernel
theorem dX1_putFires_4 : decode cX1_putFires 4 = .ok (.istore 5, 2) := by decide +kernel
theorem dX1_putFires_6 : decode cX1_putFires 6 = .ok (.iload_n 2, 1) := by decide +kernel
theorem dX1_putFires_7 : decode cX1_putFires 7 = .ok (.iconst 1, 1) := by decide +kernel
theorem dX1_putFires_8 : decode cX1_putFires 8 = .ok (.isub, 1) := by decide +kernel
theorem dX1_putFires_9 : decode cX1_putFires 9 = .ok (.istore 6, 2) := by decide +kernel
theorem dX1_putFires_11 : decode cX1_putFires 11 = .ok (.iload 6, 2) := by decide +kernel
theorem dX1_putFires_13 : decode cX1_putFires 13 = .ok (.ifCond .lt 38, 3) := by decide +kernel
theorem dX1_putFires_16 : decode cX1_putFires 16 = .ok (.aload_n 1, 1) := by decide +kernel
theorem dX1_putFires_17 : decode cX1_putFires 17 = .ok (.getfield 53, 3) := by decide +kernel
theorem dX1_putFires_20 : decode cX1_putFires 20 = .ok (.iload 6, 2) := by decide +kernel
theorem dX1_putFires_22 : decode cX1_putFires 22 = .ok (.iload 5, 2) := by decide +kernel
theorem dX1_putFires_24 : decode cX1_putFires 24 = .ok (.iconst 3, 1) := by decide +kernel
theorem dX1_putFires_25 : decode cX1_putFires 25 = .ok (.iand, 1) := by decide +kernel
theorem dX1_putFires_26 : decode cX1_putFires 26 = .ok (.iastore, 1) := by decide +kernel
theorem dX1_putFires_27 : decode cX1_putFires 27 = .ok (.iload 4, 2) := by decide +kernel
theorem dX1_putFires_29 : decode cX1_putFires 29 = .ok (.aload_n 1, 1) := by decide +kernel
theorem dX1_putFires_30 : decode cX1_putFires 30 = .ok (.getfield 53, 3) := by decide +kernel
theorem dX1_putFires_33 : decode cX1_putFires 33 = .ok (.iload 6, 2) := by decide +kernel
theorem dX1_putFires_35 : decode cX1_putFires 35 = .ok (.iaload, 1) := by decide +kernel
theorem dX1_putFires_36 : decode cX1_putFires 36 = .ok (.iadd, 1) := by decide +kernel
theorem dX1_putFires_37 : decode cX1_putFires 37 = .ok (.istore 4, 2) := by decide +kernel
theorem dX1_putFires_39 : decode cX1_putFires 39 = .ok (.iload 5, 2) := by decide +kernel
theorem dX1_putFires_41 : decode cX1_putFires 41 = .ok (.iconst 2, 1) := by decide +kernel
theorem dX1_putFires_42 : decode cX1_putFires 42 = .ok (.ishr, 1) := by decide +kernel
theorem dX1_putFires_43 : decode cX1_putFires 43 = .ok (.istore 5, 2) := by decide +kernel
theorem dX1_putFires_45 : decode cX1_putFires 45 = .ok (.iinc 6 (-1), 3) := by decide +kernel
theorem dX1_putFires_48 : decode cX1_putFires 48 = .ok (.goto (-37), 3) := by decide +kernel
theorem dX1_putFires_51 : decode cX1_putFires 51 = .ok (.iload 4, 2) := by decide +kernel
theorem dX1_putFires_53 : decode cX1_putFires 53 = .ok (.ireturn, 1) := by decide +kernel
theorem dX1_leastLight_0 : decode cX1_leastLight 0 = .ok (.bipush 99, 2) := by decide +kernel
theorem dX1_leastLight_2 : decode cX1_leastLight 2 = .ok (.istore_n 3, 1) := by decide +kernel
theorem dX1_leastLight_3 : decode cX1_leastLight 3 = .ok (.iconst 0, 1) := by decide +kernel
theorem dX1_leastLight_4 : decode cX1_leastLight 4 = .ok (.istore 4, 2) := by decide +kernel
theorem dX1_leastLight_6 : decode cX1_leastLight 6 = .ok (.iload 4, 2) := by decide +kernel
theorem dX1_leastLight_8 : decode cX1_leastLight 8 = .ok (.iload_n 2, 1) := by decide +kernel
theorem dX1_leastLight_9 : decode cX1_leastLight 9 = .ok (.if_icmp .ge 36, 3) := by decide +kernel
theorem dX1_leastLight_12 : decode cX1_leastLight 12 = .ok (.iload_n 3, 1) := by decide +kernel
theorem dX1_leastLight_13 : decode cX1_leastLight 13 = .ok (.aload_n 0, 1) := by decide +kernel
theorem dX1_leastLight_14 : decode cX1_leastLight 14 = .ok (.getfield 11, 3) := by decide +kernel
theorem dX1_leastLight_17 : decode cX1_leastLight 17 = .ok (.aload_n 1, 1) := by decide +kernel
theorem dX1_leastLight_18 : decode cX1_leastLight 18 = .ok (.getfield 53, 3) := by decide +kernel
theorem dX1_leastLight_21 : decode cX1_leastLight 21 = .ok (.iload 4, 2) := by decide +kernel
theorem dX1_leastLight_23 : decode cX1_leastLight 23 = .ok (.iaload, 1) := by decide +kernel
theorem dX1_leastLight_24 : decode cX1_leastLight 24 = .ok (.bipush 7, 2) := by decide +kernel
theorem dX1_leastLight_26 : decode cX1_leastLight 26 = .ok (.imul, 1) := by decide +kernel
theorem dX1_leastLight_27 : decode cX1_leastLight 27 = .ok (.aload_n 1, 1) := by decide +kernel
theorem dX1_leastLight_28 : decode cX1_leastLight 28 = .ok (.iload 4, 2) := by decide +kernel
theorem dX1_leastLight_30 : decode cX1_leastLight 30 = .ok (.invokevirtual 56, 3) := by decide +kernel
theorem dX1_leastLight_33 : decode cX1_leastLight 33 = .ok (.iadd, 1) := by decide +kernel
theorem dX1_leastLight_34 : decode cX1_leastLight 34 = .ok (.iaload, 1) := by decide +kernel
theorem dX1_leastLight_35 : decode cX1_leastLight 35 = .ok (.invokestatic 40, 3) := by decide +kernel
theorem dX1_leastLight_38 : decode cX1_leastLight 38 = .ok (.istore_n 3, 1) := by decide +kernel
theorem dX1_leastLight_39 : decode cX1_leastLight 39 = .ok (.iinc 4 1, 3) := by decide +kernel
theorem dX1_leastLight_42 : decode cX1_leastLight 42 = .ok (.goto (-36), 3) := by decide +kernel
theorem dX1_leastLight_45 : decode cX1_leastLight 45 = .ok (.iload_n 3, 1) := by decide +kernel
theorem dX1_leastLight_46 : decode cX1_leastLight 46 = .ok (.ireturn, 1) := by decide +kernel
theorem dX2_init_0 : decode cX2_init 0 = .ok (.aload_n 0, 1) := by decide +kernel
theorem dX2_init_1 : decode cX2_init 1 = .ok (.invokespecial 3, 3) := by decide +kernel
theorem dX2_init_4 : decode cX2_init 4 = .ok (.aload_n 0, 1) := by decide +kernel
theorem dX2_init_5 : decode cX2_init 5 = .ok (.iconst 0, 1) := by decide +kernel
theorem dX2_init_6 : decode cX2_init 6 = .ok (.putfield 9, 3) := by decide +kernel
theorem dX2_init_9 : decode cX2_init 9 = .ok (.aload_n 0, 1) := by decide +kernel
theorem dX2_init_10 : decode cX2_init 10 = .ok (.iconst 0, 1) := by decide +kernel
theorem dX2_init_11 : decode cX2_init 11 = .ok (.putfield 15, 3) := by decide +kernel
theorem dX2_init_14 : decode cX2_init 14 = .ok (.aload_n 0, 1) := by decide +kernel
theorem dX2_init_15 : decode cX2_init 15 = .ok (.bipush 96, 2) := by decide +kernel
theorem dX2_init_17 : decode cX2_init 17 = .ok (.newarray .int, 2) := by decide +kernel
theorem dX2_init_19 : decode cX2_init 19 = .ok (.putfield 18, 3) := by decide +kernel
theorem dX2_init_22 : decode cX2_init 22 = .ok (.aload_n 0, 1) := by decide +kernel
theorem dX2_init_23 : decode cX2_init 23 = .ok (.iconst 0, 1) := by decide +kernel
theorem dX2_init_24 : decode cX2_init 24 = .ok (.putfield 22, 3) := by decide +kernel
theorem dX2_init_27 : decode cX2_init 27 = .ok (.aload_n 0, 1) := by decide +kernel
theorem dX2_init_28 : decode cX2_init 28 = .ok (.aload_n 1, 1) := by decide +kernel
theorem dX2_init_29 : decode cX2_init 29 = .ok (.putfield 25, 3) := by decide +kernel
theorem dX2_init_32 : decode cX2_init 32 = .ok (.return_, 1) := by decide +kernel
theorem dX2_begins_0 : decode cX2_begins 0 = .ok (.aload_n 0, 1) := by decide +kernel
theorem dX2_begins_1 : decode cX2_begins 1 = .ok (.iload_n 1, 1) := by decide +kernel
theorem dX2_begins_2 : decode cX2_begins 2 = .ok (.putfield 9, 3) := by decide +kernel
theorem dX2_begins_5 : decode cX2_begins 5 = .ok (.aload_n 0, 1) := by decide +kernel
theorem dX2_begins_6 : decode cX2_begins 6 = .ok (.iconst 0, 1) := by decide +kernel
theorem dX2_begins_7 : decode cX2_begins 7 = .ok (.putfield 15, 3) := by decide +kernel
theorem dX2_begins_10 : decode cX2_begins 10 = .ok (.aload_n 0, 1) := by decide +kernel
theorem dX2_begins_11 : decode cX2_begins 11 = .ok (.iconst 0, 1) := by decide +kernel
theorem dX2_begins_12 : decode cX2_begins 12 = .ok (.putfield 22, 3) := by decide +kernel
theorem dX2_begins_15 : decode cX2_begins 15 = .ok (.return_, 1) := by decide +kernel
theorem dX2_addNumber_0 : decode cX2_addNumber 0 = .ok (.aload_n 0, 1) := by decide +kernel
theorem dX2_addNumber_1 : decode cX2_addNumber 1 = .ok (.iload_n 1, 1) := by decide +kernel
theorem dX2_addNumber_2 : decode cX2_addNumber 2 = .ok (.invokevirtual 28, 3) := by decide +kernel
theorem dX2_addNumber_5 : decode cX2_addNumber 5 = .ok (.aload_n 0, 1) := by decide +kernel
theorem dX2_addNumber_6 : decode cX2_addNumber 6 = .ok (.dup, 1) := by decide +kernel
theorem dX2_addNumber_7 : decode cX2_addNumber 7 = .ok (.getfield 15, 3) := by decide +kernel
theorem dX2_addNumber_10 : decode cX2_addNumber 10 = .ok (.iconst 1, 1) := by decide +kernel
theorem dX2_addNumber_11 : decode cX2_addNumber 11 = .ok (.iadd, 1) := by decide +kernel
theorem dX2_addNumber_12 : decode cX2_addNumber 12 = .ok (.putfield 15, 3) := by decide +kernel
theorem dX2_addNumber_15 : decode cX2_addNumber 15 = .ok (.return_, 1) := by decide +kernel
theorem dX2_addName_0 : decode cX2_addName 0 = .ok (.aload_n 0, 1) := by decide +kernel
theorem dX2_addName_1 : decode cX2_addName 1 = .ok (.iconst (-1), 1) := by decide +kernel
theorem dX2_addName_2 : decode cX2_addName 2 = .ok (.iload_n 1, 1) := by decide +kernel
theorem dX2_addName_3 : decode cX2_addName 3 = .ok (.isub, 1) := by decide +kernel
theorem dX2_addName_4 : decode cX2_addName 4 = .ok (.invokevirtual 28, 3) := by decide +kernel
theorem dX2_addName_7 : decode cX2_addName 7 = .ok (.aload_n 0, 1) := by decide +kernel
theorem dX2_addName_8 : decode cX2_addName 8 = .ok (.dup, 1) := by decide +kernel
theorem dX2_addName_9 : decode cX2_addName 9 = .ok (.getfield 15, 3) := by decide +kernel
theorem dX2_addName_12 : decode cX2_addName 12 = .ok (.iconst 1, 1) := by decide +kernel
theorem dX2_addName_13 : decode cX2_addName 13 = .ok (.iadd, 1) := by decide +kernel
theorem dX2_addName_14 : decode cX2_addName 14 = .ok (.putfield 15, 3) := by decide +kernel
theorem dX2_addName_17 : decode cX2_addName 17 = .ok (.return_, 1) := by decide +kernel
theorem dX2_addSign_0 : decode cX2_addSign 0 = .ok (.aload_n 0, 1) := by decide +kernel
theorem dX2_addSign_1 : decode cX2_addSign 1 = .ok (.bipush (-100), 2) := by decide +kernel
theorem dX2_addSign_3 : decode cX2_addSign 3 = .ok (.iload_n 1, 1) := by decide +kernel
theorem dX2_addSign_4 : decode cX2_addSign 4 = .ok (.isub, 1) := by decide +kernel
theorem dX2_addSign_5 : decode cX2_addSign 5 = .ok (.invokevirtual 28, 3) := by decide +kernel
theorem dX2_addSign_8 : decode cX2_addSign 8 = .ok (.return_, 1) := by decide +kernel
theorem dX2_addCode_0 : decode cX2_addCode 0 = .ok (.aload_n 0, 1) := by decide +kernel
theorem dX2_addCode_1 : decode cX2_addCode 1 = .ok (.getfield 22, 3) := by decide +kernel
theorem dX2_addCode_4 : decode cX2_addCode 4 = .ok (.aload_n 0, 1) := by decide +kernel
theorem dX2_addCode_5 : decode cX2_addCode 5 = .ok (.getfield 18, 3) := by decide +kernel
theorem dX2_addCode_8 : decode cX2_addCode 8 = .ok (.arraylength, 1) := by decide +kernel
theorem dX2_addCode_9 : decode cX2_addCode 9 = .ok (.if_icmp .ge 23, 3) := by decide +kernel
theorem dX2_addCode_12 : decode cX2_addCode 12 = .ok (.aload_n 0, 1) := by decide +kernel
theorem dX2_addCode_13 : decode cX2_addCode 13 = .ok (.getfield 18, 3) := by decide +kernel
theorem dX2_addCode_16 : decode cX2_addCode 16 = .ok (.aload_n 0, 1) := by decide +kernel
theorem dX2_addCode_17 : decode cX2_addCode 17 = .ok (.getfield 22, 3) := by decide +kernel
theorem dX2_addCode_20 : decode cX2_addCode 20 = .ok (.iload_n 1, 1) := by decide +kernel
theorem dX2_addCode_21 : decode cX2_addCode 21 = .ok (.iastore, 1) := by decide +kernel
theorem dX2_addCode_22 : decode cX2_addCode 22 = .ok (.aload_n 0, 1) := by decide +kernel
theorem dX2_addCode_23 : decode cX2_addCode 23 = .ok (.dup, 1) := by decide +kernel
theorem dX2_addCode_24 : decode cX2_addCode 24 = .ok (.getfield 22, 3) := by decide +kernel
theorem dX2_addCode_27 : decode cX2_addCode 27 = .ok (.iconst 1, 1) := by decide +kernel
theorem dX2_addCode_28 : decode cX2_addCode 28 = .ok (.iadd, 1) := by decide +kernel
theorem dX2_addCode_29 : decode cX2_addCode 29 = .ok (.putfield 22, 3) := by decide +kernel
theorem dX2_addCode_32 : decode cX2_addCode 32 = .ok (.return_, 1) := by decide +kernel
theorem dX2_work_0 : decode cX2_work 0 = .ok (.iconst 0, 1) := by decide +kernel
theorem dX2_work_1 : decode cX2_work 1 = .ok (.istore 4, 2) := by decide +kernel
theorem dX2_work_3 : decode cX2_work 3 = .ok (.iconst 0, 1) := by decide +kernel
theorem dX2_work_4 : decode cX2_work 4 = .ok (.istore 5, 2) := by decide +kernel
theorem dX2_work_6 : decode cX2_work 6 = .ok (.iload 5, 2) := by decide +kernel
theorem dX2_work_8 : decode cX2_work 8 = .ok (.aload_n 0, 1) := by decide +kernel
theorem dX2_work_9 : decode cX2_work 9 = .ok (.getfield 22, 3) := by decide +kernel
theorem dX2_work_12 : decode cX2_work 12 = .ok (.if_icmp .ge 151, 3) := by decide +kernel
theorem dX2_work_15 : decode cX2_work 15 = .ok (.aload_n 0, 1) := by decide +kernel
theorem dX2_work_16 : decode cX2_work 16 = .ok (.getfield 18, 3) := by decide +kernel
theorem dX2_work_19 : decode cX2_work 19 = .ok (.iload 5, 2) := by decide +kernel
theorem dX2_work_21 : decode cX2_work 21 = .ok (.iaload, 1) := by decide +kernel
theorem dX2_work_22 : decode cX2_work 22 = .ok (.istore 6, 2) := by decide +kernel
theorem dX2_work_24 : decode cX2_work 24 = .ok (.iload 6, 2) := by decide +kernel
theorem dX2_work_26 : decode cX2_work 26 = .ok (.bipush (-3), 2) := by decide +kernel
theorem dX2_work_28 : decode cX2_work 28 = .ok (.if_icmp .lt 44, 3) := by decide +kernel
theorem dX2_work_31 : decode cX2_work 31 = .ok (.iload 4, 2) := by decide +kernel
theorem dX2_work_33 : decode cX2_work 33 = .ok (.aload_n 0, 1) := by decide +kernel
theorem dX2_work_34 : decode cX2_work 34 = .ok (.getfield 25, 3) := by decide +kernel
theorem dX2_work_37 : decode cX2_work 37 = .ok (.arraylength, 1) := by decide +kernel
theorem dX2_work_38 : decode cX2_work 38 = .ok (.if_icmp .ge 34, 3) := by decide +kernel
theorem dX2_work_41 : decode cX2_work 41 = .ok (.aload_n 0, 1) := by decide +kernel
theorem dX2_work_42 : decode cX2_work 42 = .ok (.getfield 25, 3) := by decide +kernel
theorem dX2_work_45 : decode cX2_work 45 = .ok (.iload 4, 2) := by decide +kernel
theorem dX2_work_47 : decode cX2_work 47 = .ok (.iload 6, 2) := by decide +kernel
theorem dX2_work_49 : decode cX2_work 49 = .ok (.ifCond .lt 8, 3) := by decide +kernel
theorem dX2_work_52 : decode cX2_work 52 = .ok (.iload 6, 2) := by decide +kernel
theorem dX2_work_54 : decode cX2_work 54 = .ok (.goto 11, 3) := by decide +kernel
theorem dX2_work_57 : decode cX2_work 57 = .ok (.iload 6, 2) := by decide +kernel
theorem dX2_work_59 : decode cX2_work 59 = .ok (.iload_n 1, 1) := by decide +kernel
theorem dX2_work_60 : decode cX2_work 60 = .ok (.iload_n 2, 1) := by decide +kernel
theorem dX2_work_61 : decode cX2_work 61 = .ok (.iload_n 3, 1) := by decide +kernel
theorem dX2_work_62 : decode cX2_work 62 = .ok (.invokestatic 32, 3) := by decide +kernel
theorem dX2_work_65 : decode cX2_work 65 = .ok (.iastore, 1) := by decide +kernel
theorem dX2_work_66 : decode cX2_work 66 = .ok (.iinc 4 1, 3) := by decide +kernel
theorem dX2_work_69 : decode cX2_work 69 = .ok (.goto 88, 3) := by decide +kernel
theorem dX2_work_72 : decode cX2_work 72 = .ok (.iload 6, 2) := by decide +kernel
theorem dX2_work_74 : decode cX2_work 74 = .ok (.sipush (-133), 3) := by decide +kernel
theorem dX2_work_77 : decode cX2_work 77 = .ok (.if_icmp .ne 38, 3) := by decide +kernel
theorem dX2_work_80 : decode cX2_work 80 = .ok (.iload 4, 2) := by decide +kernel
theorem dX2_work_82 : decode cX2_work 82 = .ok (.iconst 1, 1) := by decide +kernel
theorem dX2_work_83 : decode cX2_work 83 = .ok (.if_icmp .lt 32, 3) := by decide +kernel
theorem dX2_work_86 : decode cX2_work 86 = .ok (.aload_n 0, 1) := by decide +kernel
theorem dX2_work_87 : decode cX2_work 87 = .ok (.getfield 25, 3) := by decide +kernel
theorem dX2_work_90 : decode cX2_work 90 = .ok (.iload 4, 2) := by decide +kernel
theorem dX2_work_92 : decode cX2_work 92 = .ok (.iconst 1, 1) := by decide +kernel
theorem dX2_work_93 : decode cX2_work 93 = .ok (.isub, 1) := by decide +kernel
theorem dX2_work_94 : decode cX2_work 94 = .ok (.aload_n 0, 1) := by decide +kernel
theorem dX2_work_95 : decode cX2_work 95 = .ok (.getfield 25, 3) := by decide +kernel
theorem dX2_work_98 : decode cX2_work 98 = .ok (.iload 4, 2) := by decide +kernel
theorem dX2_work_100 : decode cX2_work 100 = .ok (.iconst 1, 1) := by decide +kernel
theorem dX2_work_101 : decode cX2_work 101 = .ok (.isub, 1) := by decide +kernel
theorem dX2_work_102 : decode cX2_work 102 = .ok (.iaload, 1) := by decide +kernel
theorem dX2_work_103 : decode cX2_work 103 = .ok (.ifCond .ne 7, 3) := by decide +kernel
theorem dX2_work_106 : decode cX2_work 106 = .ok (.iconst 1, 1) := by decide +kernel
theorem dX2_work_107 : decode cX2_work 107 = .ok (.goto 4, 3) := by decide +kernel
theorem dX2_work_110 : decode cX2_work 110 = .ok (.iconst 0, 1) := by decide +kernel
theorem dX2_work_111 : decode cX2_work 111 = .ok (.iastore, 1) := by decide +kernel
theorem dX2_work_112 : decode cX2_work 112 = .ok (.goto 45, 3) := by decide +kernel
theorem dX2_work_115 : decode cX2_work 115 = .ok (.iload 4, 2) := by decide +kernel
theorem dX2_work_117 : decode cX2_work 117 = .ok (.iconst 2, 1) := by decide +kernel
theorem dX2_work_118 : decode cX2_work 118 = .ok (.if_icmp .lt 39, 3) := by decide +kernel
theorem dX2_work_121 : decode cX2_work 121 = .ok (.iinc 4 (-1), 3) := by decide +kernel
theorem dX2_work_124 : decode cX2_work 124 = .ok (.aload_n 0, 1) := by decide +kernel
theorem dX2_work_125 : decode cX2_work 125 = .ok (.getfield 25, 3) := by decide +kernel
theorem dX2_work_128 : decode cX2_work 128 = .ok (.iload 4, 2) := by decide +kernel
theorem dX2_work_130 : decode cX2_work 130 = .ok (.iconst 1, 1) := by decide +kernel
theorem dX2_work_131 : decode cX2_work 131 = .ok (.isub, 1) := by decide +kernel
theorem dX2_work_132 : decode cX2_work 132 = .ok (.bipush (-100), 2) := by decide +kernel
theorem dX2_work_134 : decode cX2_work 134 = .ok (.iload 6, 2) := by decide +kernel
theorem dX2_work_136 : decode cX2_work 136 = .ok (.isub, 1) := by decide +kernel
theorem dX2_work_137 : decode cX2_work 137 = .ok (.aload_n 0, 1) := by decide +kernel
theorem dX2_work_138 : decode cX2_work 138 = .ok (.getfield 25, 3) := by decide +kernel
theorem dX2_work_141 : decode cX2_work 141 = .ok (.iload 4, 2) := by decide +kernel
theorem dX2_work_143 : decode cX2_work 143 = .ok (.iconst 1, 1) := by decide +kernel
theorem dX2_work_144 : decode cX2_work 144 = .ok (.isub, 1) := by decide +kernel
theorem dX2_work_145 : decode cX2_work 145 = .ok (.iaload, 1) := by decide +kernel
theorem dX2_work_146 : decode cX2_work 146 = .ok (.aload_n 0, 1) := by decide +kernel
theorem dX2_work_147 : decode cX2_work 147 = .ok (.getfield 25, 3) := by decide +kernel
theorem dX2_work_150 : decode cX2_work 150 = .ok (.iload 4, 2) := by decide +kernel
theorem dX2_work_152 : decode cX2_work 152 = .ok (.iaload, 1) := by decide +kernel
theorem dX2_work_153 : decode cX2_work 153 = .ok (.invokestatic 36, 3) := by decide +kernel
theorem dX2_work_156 : decode cX2_work 156 = .ok (.iastore, 1) := by decide +kernel
theorem dX2_work_157 : decode cX2_work 157 = .ok (.iinc 5 1, 3) := by decide +kernel
theorem dX2_work_160 : decode cX2_work 160 = .ok (.goto (-154), 3) := by decide +kernel
theorem dX2_work_163 : decode cX2_work 163 = .ok (.aload_n 0, 1) := by decide +kernel
theorem dX2_work_164 : decode cX2_work 164 = .ok (.getfield 25, 3) := by decide +kernel
theorem dX2_work_167 : decode cX2_work 167 = .ok (.iconst 0, 1) := by decide +kernel
theorem dX2_work_168 : decode cX2_work 168 = .ok (.iaload, 1) := by decide +kernel
theorem dX2_work_169 : decode cX2_work 169 = .ok (.ireturn, 1) := by decide +kernel
theorem dX2_named_0 : decode cX2_named 0 = .ok (.iload_n 0, 1) := by decide +kernel
theorem dX2_named_1 : decode cX2_named 1 = .ok (.iconst (-1), 1) := by decide +kernel
theorem dX2_named_2 : decode cX2_named 2 = .ok (.if_icmp .ne 5, 3) := by decide +kernel
theorem dX2_named_5 : decode cX2_named 5 = .ok (.iload_n 1, 1) := by decide +kernel
theorem dX2_named_6 : decode cX2_named 6 = .ok (.ireturn, 1) := by decide +kernel
theorem dX2_named_7 : decode cX2_named 7 = .ok (.iload_n 0, 1) := by decide +kernel
theorem dX2_named_8 : decode cX2_named 8 = .ok (.bipush (-3), 2) := by decide +kernel
theorem dX2_named_10 : decode cX2_named 10 = .ok (.if_icmp .ne 7, 3) := by decide +kernel
theorem dX2_named_13 : decode cX2_named 13 = .ok (.iload_n 3, 1) := by decide +kernel
theorem dX2_named_14 : decode cX2_named 14 = .ok (.goto 4, 3) := by decide +kernel
theorem dX2_named_17 : decode cX2_named 17 = .ok (.iload_n 2, 1) := by decide +kernel
theorem dX2_named_18 : decode cX2_named 18 = .ok (.ireturn, 1) := by decide +kernel
theorem dX2_joined_0 : decode cX2_joined 0 = .ok (.iload_n 0, 1) := by decide +kernel
theorem dX2_joined_1 : decode cX2_joined 1 = .ok (.lookupswitch 148 #[(38, 89), (42, 144), (43, 136), (45, 140), (60, 103), (61, 114), (62, 125), (124, 75)], 75) := by decide +kernel
theorem dX2_joined_76 : decode cX2_joined 76 = .ok (.iload_n 1, 1) := by decide +kernel
theorem dX2_joined_77 : decode cX2_joined 77 = .ok (.ifCond .ne 7, 3) := by decide +kernel
theorem dX2_joined_80 : decode cX2_joined 80 = .ok (.iload_n 2, 1) := by decide +kernel
theorem dX2_joined_81 : decode cX2_joined 81 = .ok (.ifCond .eq 7, 3) := by decide +kernel
theorem dX2_joined_84 : decode cX2_joined 84 = .ok (.iconst 1, 1) := by decide +kernel
theorem dX2_joined_85 : decode cX2_joined 85 = .ok (.goto 4, 3) := by decide +kernel
theorem dX2_joined_88 : decode cX2_joined 88 = .ok (.iconst 0, 1) := by decide +kernel
theorem dX2_joined_89 : decode cX2_joined 89 = .ok (.ireturn, 1) := by decide +kernel
theorem dX2_joined_90 : decode cX2_joined 90 = .ok (.iload_n 1, 1) := by decide +kernel
theorem dX2_joined_91 : decode cX2_joined 91 = .ok (.ifCond .eq 11, 3) := by decide +kernel
theorem dX2_joined_94 : decode cX2_joined 94 = .ok (.iload_n 2, 1) := by decide +kernel
theorem dX2_joined_95 : decode cX2_joined 95 = .ok (.ifCond .eq 7, 3) := by decide +kernel
theorem dX2_joined_98 : decode cX2_joined 98 = .ok (.iconst 1, 1) := by decide +kernel
theorem dX2_joined_99 : decode cX2_joined 99 = .ok (.goto 4, 3) := by decide +kernel
theorem dX2_joined_102 : decode cX2_joined 102 = .ok (.iconst 0, 1) := by decide +kernel
theorem dX2_joined_103 : decode cX2_joined 103 = .ok (.ireturn, 1) := by decide +kernel
theorem dX2_joined_104 : decode cX2_joined 104 = .ok (.iload_n 1, 1) := by decide +kernel
theorem dX2_joined_105 : decode cX2_joined 105 = .ok (.iload_n 2, 1) := by decide +kernel
theorem dX2_joined_106 : decode cX2_joined 106 = .ok (.if_icmp .ge 7, 3) := by decide +kernel
theorem dX2_joined_109 : decode cX2_joined 109 = .ok (.iconst 1, 1) := by decide +kernel
theorem dX2_joined_110 : decode cX2_joined 110 = .ok (.goto 4, 3) := by decide +kernel
theorem dX2_joined_113 : decode cX2_joined 113 = .ok (.iconst 0, 1) := by decide +kernel
theorem dX2_joined_114 : decode cX2_joined 114 = .ok (.ireturn, 1) := by decide +kernel
theorem dX2_joined_115 : decode cX2_joined 115 = .ok (.iload_n 1, 1) := by decide +kernel
theorem dX2_joined_116 : decode cX2_joined 116 = .ok (.iload_n 2, 1) := by decide +kernel
theorem dX2_joined_117 : decode cX2_joined 117 = .ok (.if_icmp .ne 7, 3) := by decide +kernel
theorem dX2_joined_120 : decode cX2_joined 120 = .ok (.iconst 1, 1) := by decide +kernel
theorem dX2_joined_121 : decode cX2_joined 121 = .ok (.goto 4, 3) := by decide +kernel
theorem dX2_joined_124 : decode cX2_joined 124 = .ok (.iconst 0, 1) := by decide +kernel
theorem dX2_joined_125 : decode cX2_joined 125 = .ok (.ireturn, 1) := by decide +kernel
theorem dX2_joined_126 : decode cX2_joined 126 = .ok (.iload_n 1, 1) := by decide +kernel
theorem dX2_joined_127 : decode cX2_joined 127 = .ok (.iload_n 2, 1) := by decide +kernel
theorem dX2_joined_128 : decode cX2_joined 128 = .ok (.if_icmp .le 7, 3) := by decide +kernel
theorem dX2_joined_131 : decode cX2_joined 131 = .ok (.iconst 1, 1) := by decide +kernel
theorem dX2_joined_132 : decode cX2_joined 132 = .ok (.goto 4, 3) := by decide +kernel
theorem dX2_joined_135 : decode cX2_joined 135 = .ok (.iconst 0, 1) := by decide +kernel
theorem dX2_joined_136 : decode cX2_joined 136 = .ok (.ireturn, 1) := by decide +kernel
theorem dX2_joined_137 : decode cX2_joined 137 = .ok (.iload_n 1, 1) := by decide +kernel
theorem dX2_joined_138 : decode cX2_joined 138 = .ok (.iload_n 2, 1) := by decide +kernel
theorem dX2_joined_139 : decode cX2_joined 139 = .ok (.iadd, 1) := by decide +kernel
theorem dX2_joined_140 : decode cX2_joined 140 = .ok (.ireturn, 1) := by decide +kernel
theorem dX2_joined_141 : decode cX2_joined 141 = .ok (.iload_n 1, 1) := by decide +kernel
theorem dX2_joined_142 : decode cX2_joined 142 = .ok (.iload_n 2, 1) := by decide +kernel
theorem dX2_joined_143 : decode cX2_joined 143 = .ok (.isub, 1) := by decide +kernel
theorem dX2_joined_144 : decode cX2_joined 144 = .ok (.ireturn, 1) := by decide +kernel
theorem dX2_joined_145 : decode cX2_joined 145 = .ok (.iload_n 1, 1) := by decide +kernel
theorem dX2_joined_146 : decode cX2_joined 146 = .ok (.iload_n 2, 1) := by decide +kernel
theorem dX2_joined_147 : decode cX2_joined 147 = .ok (.imul, 1) := by decide +kernel
theorem dX2_joined_148 : decode cX2_joined 148 = .ok (.ireturn, 1) := by decide +kernel
theorem dX2_joined_149 : decode cX2_joined 149 = .ok (.iload_n 2, 1) := by decide +kernel
theorem dX2_joined_150 : decode cX2_joined 150 = .ok (.ifCond .ne 7, 3) := by decide +kernel
theorem dX2_joined_153 : decode cX2_joined 153 = .ok (.iconst 0, 1) := by decide +kernel
theorem dX2_joined_154 : decode cX2_joined 154 = .ok (.goto 6, 3) := by decide +kernel
theorem dX2_joined_157 : decode cX2_joined 157 = .ok (.iload_n 1, 1) := by decide +kernel
theorem dX2_joined_158 : decode cX2_joined 158 = .ok (.iload_n 2, 1) := by decide +kernel
theorem dX2_joined_159 : decode cX2_joined 159 = .ok (.idiv, 1) := by decide +kernel
theorem dX2_joined_160 : decode cX2_joined 160 = .ok (.ireturn, 1) := by decide +kernel
theorem dX3_init_0 : decode cX3_init 0 = .ok (.aload_n 0, 1) := by decide +kernel
theorem dX3_init_1 : decode cX3_init 1 = .ok (.invokespecial 3, 3) := by decide +kernel
theorem dX3_init_4 : decode cX3_init 4 = .ok (.aload_n 0, 1) := by decide +kernel
theorem dX3_init_5 : decode cX3_init 5 = .ok (.iconst 0, 1) := by decide +kernel
theorem dX3_init_6 : decode cX3_init 6 = .ok (.putfield 9, 3) := by decide +kernel
theorem dX3_init_9 : decode cX3_init 9 = .ok (.aload_n 0, 1) := by decide +kernel
theorem dX3_init_10 : decode cX3_init 10 = .ok (.bipush 12, 2) := by decide +kernel
theorem dX3_init_12 : decode cX3_init 12 = .ok (.newarray .int, 2) := by decide +kernel
theorem dX3_init_14 : decode cX3_init 14 = .ok (.putfield 15, 3) := by decide +kernel
theorem dX3_init_17 : decode cX3_init 17 = .ok (.aload_n 0, 1) := by decide +kernel
theorem dX3_init_18 : decode cX3_init 18 = .ok (.bipush 12, 2) := by decide +kernel
theorem dX3_init_20 : decode cX3_init 20 = .ok (.newarray .int, 2) := by decide +kernel
theorem dX3_init_22 : decode cX3_init 22 = .ok (.putfield 19, 3) := by decide +kernel
theorem dX3_init_25 : decode cX3_init 25 = .ok (.aload_n 0, 1) := by decide +kernel
theorem dX3_init_26 : decode cX3_init 26 = .ok (.bipush 12, 2) := by decide +kernel
theorem dX3_init_28 : decode cX3_init 28 = .ok (.newarray .int, 2) := by decide +kernel
theorem dX3_init_30 : decode cX3_init 30 = .ok (.putfield 22, 3) := by decide +kernel
theorem dX3_init_33 : decode cX3_init 33 = .ok (.return_, 1) := by decide +kernel
theorem dX3_has_0 : decode cX3_has 0 = .ok (.iload_n 1, 1) := by decide +kernel
theorem dX3_has_1 : decode cX3_has 1 = .ok (.iconst 0, 1) := by decide +kernel
theorem dX3_has_2 : decode cX3_has 2 = .ok (.aload_n 0, 1) := by decide +kernel
theorem dX3_has_3 : decode cX3_has 3 = .ok (.getfield 9, 3) := by decide +kernel
theorem dX3_has_6 : decode cX3_has 6 = .ok (.iconst 1, 1) := by decide +kernel
theorem dX3_has_7 : decode cX3_has 7 = .ok (.isub, 1) := by decide +kernel
theorem dX3_has_8 : decode cX3_has 8 = .ok (.invokestatic 25, 3) := by decide +kernel
theorem dX3_has_11 : decode cX3_has 11 = .ok (.ireturn, 1) := by decide +kernel
theorem dX3_joins_0 : decode cX3_joins 0 = .ok (.aload_n 0, 1) := by decide +kernel
theorem dX3_joins_1 : decode cX3_joins 1 = .ok (.getfield 9, 3) := by decide +kernel
theorem dX3_joins_4 : decode cX3_joins 4 = .ok (.bipush 12, 2) := by decide +kernel
theorem dX3_joins_6 : decode cX3_joins 6 = .ok (.if_icmp .lt 6, 3) := by decide +kernel
theorem dX3_joins_9 : decode cX3_joins 9 = .ok (.ldc 29, 2) := by decide +kernel
theorem dX3_joins_11 : decode cX3_joins 11 = .ok (.ireturn, 1) := by decide +kernel
theorem dX3_joins_12 : decode cX3_joins 12 = .ok (.aload_n 0, 1) := by decide +kernel
theorem dX3_joins_13 : decode cX3_joins 13 = .ok (.getfield 15, 3) := by decide +kernel
theorem dX3_joins_16 : decode cX3_joins 16 = .ok (.aload_n 0, 1) := by decide +kernel
theorem dX3_joins_17 : decode cX3_joins 17 = .ok (.getfield 9, 3) := by decide +kernel
theorem dX3_joins_20 : decode cX3_joins 20 = .ok (.iload_n 1, 1) := by decide +kernel
theorem dX3_joins_21 : decode cX3_joins 21 = .ok (.iastore, 1) := by decide +kernel
theorem dX3_joins_22 : decode cX3_joins 22 = .ok (.aload_n 0, 1) := by decide +kernel
theorem dX3_joins_23 : decode cX3_joins 23 = .ok (.getfield 19, 3) := by decide +kernel
theorem dX3_joins_26 : decode cX3_joins 26 = .ok (.aload_n 0, 1) := by decide +kernel
theorem dX3_joins_27 : decode cX3_joins 27 = .ok (.getfield 9, 3) := by decide +kernel
theorem dX3_joins_30 : decode cX3_joins 30 = .ok (.iconst 0, 1) := by decide +kernel
theorem dX3_joins_31 : decode cX3_joins 31 = .ok (.iastore, 1) := by decide +kernel
theorem dX3_joins_32 : decode cX3_joins 32 = .ok (.aload_n 0, 1) := by decide +kernel
theorem dX3_joins_33 : decode cX3_joins 33 = .ok (.getfield 22, 3) := by decide +kernel
theorem dX3_joins_36 : decode cX3_joins 36 = .ok (.aload_n 0, 1) := by decide +kernel
theorem dX3_joins_37 : decode cX3_joins 37 = .ok (.getfield 9, 3) := by decide +kernel
theorem dX3_joins_40 : decode cX3_joins 40 = .ok (.iconst 0, 1) := by decide +kernel
theorem dX3_joins_41 : decode cX3_joins 41 = .ok (.iastore, 1) := by decide +kernel
theorem dX3_joins_42 : decode cX3_joins 42 = .ok (.aload_n 0, 1) := by decide +kernel
theorem dX3_joins_43 : decode cX3_joins 43 = .ok (.dup, 1) := by decide +kernel
theorem dX3_joins_44 : decode cX3_joins 44 = .ok (.getfield 9, 3) := by decide +kernel
theorem dX3_joins_47 : decode cX3_joins 47 = .ok (.iconst 1, 1) := by decide +kernel
theorem dX3_joins_48 : decode cX3_joins 48 = .ok (.iadd, 1) := by decide +kernel
theorem dX3_joins_49 : decode cX3_joins 49 = .ok (.putfield 9, 3) := by decide +kernel
theorem dX3_joins_52 : decode cX3_joins 52 = .ok (.aload_n 0, 1) := by decide +kernel
theorem dX3_joins_53 : decode cX3_joins 53 = .ok (.getfield 9, 3) := by decide +kernel
theorem dX3_joins_56 : decode cX3_joins 56 = .ok (.iconst 1, 1) := by decide +kernel
theorem dX3_joins_57 : decode cX3_joins 57 = .ok (.isub, 1) := by decide +kernel
theorem dX3_joins_58 : decode cX3_joins 58 = .ok (.ireturn, 1) := by decide +kernel
theorem dX3_row_0 : decode cX3_row 0 = .ok (.iload_n 1, 1) := by decide +kernel
theorem dX3_row_1 : decode cX3_row 1 = .ok (.ifCond .ne 8, 3) := by decide +kernel
theorem dX3_row_4 : decode cX3_row 4 = .ok (.aload_n 0, 1) := by decide +kernel
theorem dX3_row_5 : decode cX3_row 5 = .ok (.getfield 15, 3) := by decide +kernel
theorem dX3_row_8 : decode cX3_row 8 = .ok (.areturn, 1) := by decide +kernel
theorem dX3_row_9 : decode cX3_row 9 = .ok (.iload_n 1, 1) := by decide +kernel
theorem dX3_row_10 : decode cX3_row 10 = .ok (.iconst 1, 1) := by decide +kernel
theorem dX3_row_11 : decode cX3_row 11 = .ok (.if_icmp .ne 10, 3) := by decide +kernel
theorem dX3_row_14 : decode cX3_row 14 = .ok (.aload_n 0, 1) := by decide +kernel
theorem dX3_row_15 : decode cX3_row 15 = .ok (.getfield 19, 3) := by decide +kernel
theorem dX3_row_18 : decode cX3_row 18 = .ok (.goto 7, 3) := by decide +kernel
theorem dX3_row_21 : decode cX3_row 21 = .ok (.aload_n 0, 1) := by decide +kernel
theorem dX3_row_22 : decode cX3_row 22 = .ok (.getfield 22, 3) := by decide +kernel
theorem dX3_row_25 : decode cX3_row 25 = .ok (.areturn, 1) := by decide +kernel
theorem dX3_nextFires_0 : decode cX3_nextFires 0 = .ok (.aload_n 0, 1) := by decide +kernel
theorem dX3_nextFires_1 : decode cX3_nextFires 1 = .ok (.getfield 9, 3) := by decide +kernel
theorem dX3_nextFires_4 : decode cX3_nextFires 4 = .ok (.iconst 2, 1) := by decide +kernel
theorem dX3_nextFires_5 : decode cX3_nextFires 5 = .ok (.if_icmp .lt 11, 3) := by decide +kernel
theorem dX3_nextFires_8 : decode cX3_nextFires 8 = .ok (.aload_n 0, 1) := by decide +kernel
theorem dX3_nextFires_9 : decode cX3_nextFires 9 = .ok (.iload_n 1, 1) := by decide +kernel
theorem dX3_nextFires_10 : decode cX3_nextFires 10 = .ok (.invokevirtual 30, 3) := by decide +kernel
theorem dX3_nextFires_13 : decode cX3_nextFires 13 = .ok (.ifCond .ne 5, 3) := by decide +kernel
theorem dX3_nextFires_16 : decode cX3_nextFires 16 = .ok (.iconst 0, 1) := by decide +kernel
theorem dX3_nextFires_17 : decode cX3_nextFires 17 = .ok (.ireturn, 1) := by decide +kernel
theorem dX3_nextFires_18 : decode cX3_nextFires 18 = .ok (.iload_n 1, 1) := by decide +kernel
theorem dX3_nextFires_19 : decode cX3_nextFires 19 = .ok (.aload_n 0, 1) := by decide +kernel
theorem dX3_nextFires_20 : decode cX3_nextFires 20 = .ok (.getfield 9, 3) := by decide +kernel
theorem dX3_nextFires_23 : decode cX3_nextFires 23 = .ok (.iconst 1, 1) := by decide +kernel
theorem dX3_nextFires_24 : decode cX3_nextFires 24 = .ok (.isub, 1) := by decide +kernel
theorem dX3_nextFires_25 : decode cX3_nextFires 25 = .ok (.if_icmp .ne 7, 3) := by decide +kernel
theorem dX3_nextFires_28 : decode cX3_nextFires 28 = .ok (.iconst 0, 1) := by decide +kernel
theorem dX3_nextFires_29 : decode cX3_nextFires 29 = .ok (.goto 6, 3) := by decide +kernel
theorem dX3_nextFires_32 : decode cX3_nextFires 32 = .ok (.iload_n 1, 1) := by decide +kernel
theorem dX3_nextFires_33 : decode cX3_nextFires 33 = .ok (.iconst 1, 1) := by decide +kernel
theorem dX3_nextFires_34 : decode cX3_nextFires 34 = .ok (.iadd, 1) := by decide +kernel
theorem dX3_nextFires_35 : decode cX3_nextFires 35 = .ok (.istore_n 2, 1) := by decide +kernel
theorem dX3_nextFires_36 : decode cX3_nextFires 36 = .ok (.iload_n 1, 1) := by decide +kernel
theorem dX3_nextFires_37 : decode cX3_nextFires 37 = .ok (.ifCond .ne 12, 3) := by decide +kernel
theorem dX3_nextFires_40 : decode cX3_nextFires 40 = .ok (.aload_n 0, 1) := by decide +kernel
theorem dX3_nextFires_41 : decode cX3_nextFires 41 = .ok (.getfield 9, 3) := by decide +kernel
theorem dX3_nextFires_44 : decode cX3_nextFires 44 = .ok (.iconst 1, 1) := by decide +kernel
theorem dX3_nextFires_45 : decode cX3_nextFires 45 = .ok (.isub, 1) := by decide +kernel
theorem dX3_nextFires_46 : decode cX3_nextFires 46 = .ok (.goto 6, 3) := by decide +kernel
theorem dX3_nextFires_49 : decode cX3_nextFires 49 = .ok (.iload_n 1, 1) := by decide +kernel
theorem dX3_nextFires_50 : decode cX3_nextFires 50 = .ok (.iconst 1, 1) := by decide +kernel
theorem dX3_nextFires_51 : decode cX3_nextFires 51 = .ok (.isub, 1) := by decide +kernel
theorem dX3_nextFires_52 : decode cX3_nextFires 52 = .ok (.istore_n 3, 1) := by decide +kernel
theorem dX3_nextFires_53 : decode cX3_nextFires 53 = .ok (.iload_n 2, 1) := by decide +kernel
theorem dX3_nextFires_54 : decode cX3_nextFires 54 = .ok (.iload_n 3, 1) := by decide +kernel
theorem dX3_nextFires_55 : decode cX3_nextFires 55 = .ok (.if_icmp .ne 12, 3) := by decide +kernel
theorem dX3_nextFires_58 : decode cX3_nextFires 58 = .ok (.aload_n 0, 1) := by decide +kernel
theorem dX3_nextFires_59 : decode cX3_nextFires 59 = .ok (.getfield 19, 3) := by decide +kernel
theorem dX3_nextFires_62 : decode cX3_nextFires 62 = .ok (.iload_n 2, 1) := by decide +kernel
theorem dX3_nextFires_63 : decode cX3_nextFires 63 = .ok (.iaload, 1) := by decide +kernel
theorem dX3_nextFires_64 : decode cX3_nextFires 64 = .ok (.goto 16, 3) := by decide +kernel
theorem dX3_nextFires_67 : decode cX3_nextFires 67 = .ok (.aload_n 0, 1) := by decide +kernel
theorem dX3_nextFires_68 : decode cX3_nextFires 68 = .ok (.getfield 19, 3) := by decide +kernel
theorem dX3_nextFires_71 : decode cX3_nextFires 71 = .ok (.iload_n 2, 1) := by decide +kernel
theorem dX3_nextFires_72 : decode cX3_nextFires 72 = .ok (.iaload, 1) := by decide +kernel
theorem dX3_nextFires_73 : decode cX3_nextFires 73 = .ok (.aload_n 0, 1) := by decide +kernel
theorem dX3_nextFires_74 : decode cX3_nextFires 74 = .ok (.getfield 19, 3) := by decide +kernel
theorem dX3_nextFires_77 : decode cX3_nextFires 77 = .ok (.iload_n 3, 1) := by decide +kernel
theorem dX3_nextFires_78 : decode cX3_nextFires 78 = .ok (.iaload, 1) := by decide +kernel
theorem dX3_nextFires_79 : decode cX3_nextFires 79 = .ok (.iadd, 1) := by decide +kernel
theorem dX3_nextFires_80 : decode cX3_nextFires 80 = .ok (.ireturn, 1) := by decide +kernel
theorem dX3_allFoals_0 : decode cX3_allFoals 0 = .ok (.iconst 0, 1) := by decide +kernel
theorem dX3_allFoals_1 : decode cX3_allFoals 1 = .ok (.istore_n 1, 1) := by decide +kernel
theorem dX3_allFoals_2 : decode cX3_allFoals 2 = .ok (.iconst 0, 1) := by decide +kernel
theorem dX3_allFoals_3 : decode cX3_allFoals 3 = .ok (.istore_n 2, 1) := by decide +kernel
theorem dX3_allFoals_4 : decode cX3_allFoals 4 = .ok (.iload_n 2, 1) := by decide +kernel
theorem dX3_allFoals_5 : decode cX3_allFoals 5 = .ok (.aload_n 0, 1) := by decide +kernel
theorem dX3_allFoals_6 : decode cX3_allFoals 6 = .ok (.getfield 9, 3) := by decide +kernel
theorem dX3_allFoals_9 : decode cX3_allFoals 9 = .ok (.if_icmp .ge 18, 3) := by decide +kernel
theorem dX3_allFoals_12 : decode cX3_allFoals 12 = .ok (.iload_n 1, 1) := by decide +kernel
theorem dX3_allFoals_13 : decode cX3_allFoals 13 = .ok (.aload_n 0, 1) := by decide +kernel
theorem dX3_allFoals_14 : decode cX3_allFoals 14 = .ok (.getfield 15, 3) := by decide +kernel
theorem dX3_allFoals_17 : decode cX3_allFoals 17 = .ok (.iload_n 2, 1) := by decide +kernel
theorem dX3_allFoals_18 : decode cX3_allFoals 18 = .ok (.iaload, 1) := by decide +kernel
theorem dX3_allFoals_19 : decode cX3_allFoals 19 = .ok (.iadd, 1) := by decide +kernel
theorem dX3_allFoals_20 : decode cX3_allFoals 20 = .ok (.istore_n 1, 1) := by decide +kernel
theorem dX3_allFoals_21 : decode cX3_allFoals 21 = .ok (.iinc 2 1, 3) := by decide +kernel
theorem dX3_allFoals_24 : decode cX3_allFoals 24 = .ok (.goto (-20), 3) := by decide +kernel
theorem dX3_allFoals_27 : decode cX3_allFoals 27 = .ok (.iload_n 1, 1) := by decide +kernel
theorem dX3_allFoals_28 : decode cX3_allFoals 28 = .ok (.ireturn, 1) := by decide +kernel
theorem dX3_takeFrom_0 : decode cX3_takeFrom 0 = .ok (.aload_n 0, 1) := by decide +kernel
theorem dX3_takeFrom_1 : decode cX3_takeFrom 1 = .ok (.aload_n 1, 1) := by decide +kernel
theorem dX3_takeFrom_2 : decode cX3_takeFrom 2 = .ok (.getfield 9, 3) := by decide +kernel
theorem dX3_takeFrom_5 : decode cX3_takeFrom 5 = .ok (.putfield 9, 3) := by decide +kernel
theorem dX3_takeFrom_8 : decode cX3_takeFrom 8 = .ok (.aload_n 1, 1) := by decide +kernel
theorem dX3_takeFrom_9 : decode cX3_takeFrom 9 = .ok (.getfield 15, 3) := by decide +kernel
theorem dX3_takeFrom_12 : decode cX3_takeFrom 12 = .ok (.iconst 0, 1) := by decide +kernel
theorem dX3_takeFrom_13 : decode cX3_takeFrom 13 = .ok (.aload_n 0, 1) := by decide +kernel
theorem dX3_takeFrom_14 : decode cX3_takeFrom 14 = .ok (.getfield 15, 3) := by decide +kernel
theorem dX3_takeFrom_17 : decode cX3_takeFrom 17 = .ok (.iconst 0, 1) := by decide +kernel
theorem dX3_takeFrom_18 : decode cX3_takeFrom 18 = .ok (.aload_n 0, 1) := by decide +kernel
theorem dX3_takeFrom_19 : decode cX3_takeFrom 19 = .ok (.getfield 9, 3) := by decide +kernel
theorem dX3_takeFrom_22 : decode cX3_takeFrom 22 = .ok (.invokestatic 34, 3) := by decide +kernel
theorem dX3_takeFrom_25 : decode cX3_takeFrom 25 = .ok (.aload_n 1, 1) := by decide +kernel
theorem dX3_takeFrom_26 : decode cX3_takeFrom 26 = .ok (.getfield 19, 3) := by decide +kernel
theorem dX3_takeFrom_29 : decode cX3_takeFrom 29 = .ok (.iconst 0, 1) := by decide +kernel
theorem dX3_takeFrom_30 : decode cX3_takeFrom 30 = .ok (.aload_n 0, 1) := by decide +kernel
theorem dX3_takeFrom_31 : decode cX3_takeFrom 31 = .ok (.getfield 19, 3) := by decide +kernel
theorem dX3_takeFrom_34 : decode cX3_takeFrom 34 = .ok (.iconst 0, 1) := by decide +kernel
theorem dX3_takeFrom_35 : decode cX3_takeFrom 35 = .ok (.aload_n 0, 1) := by decide +kernel
theorem dX3_takeFrom_36 : decode cX3_takeFrom 36 = .ok (.getfield 9, 3) := by decide +kernel
theorem dX3_takeFrom_39 : decode cX3_takeFrom 39 = .ok (.invokestatic 34, 3) := by decide +kernel
theorem dX3_takeFrom_42 : decode cX3_takeFrom 42 = .ok (.aload_n 1, 1) := by decide +kernel
theorem dX3_takeFrom_43 : decode cX3_takeFrom 43 = .ok (.getfield 22, 3) := by decide +kernel
theorem dX3_takeFrom_46 : decode cX3_takeFrom 46 = .ok (.iconst 0, 1) := by decide +kernel
theorem dX3_takeFrom_47 : decode cX3_takeFrom 47 = .ok (.aload_n 0, 1) := by decide +kernel
theorem dX3_takeFrom_48 : decode cX3_takeFrom 48 = .ok (.getfield 22, 3) := by decide +kernel
theorem dX3_takeFrom_51 : decode cX3_takeFrom 51 = .ok (.iconst 0, 1) := by decide +kernel
theorem dX3_takeFrom_52 : decode cX3_takeFrom 52 = .ok (.aload_n 0, 1) := by decide +kernel
theorem dX3_takeFrom_53 : decode cX3_takeFrom 53 = .ok (.getfield 9, 3) := by decide +kernel
theorem dX3_takeFrom_56 : decode cX3_takeFrom 56 = .ok (.invokestatic 34, 3) := by decide +kernel
theorem dX3_takeFrom_59 : decode cX3_takeFrom 59 = .ok (.return_, 1) := by decide +kernel
theorem dX4_init_0 : decode cX4_init 0 = .ok (.aload_n 0, 1) := by decide +kernel
theorem dX4_init_1 : decode cX4_init 1 = .ok (.invokespecial 3, 3) := by decide +kernel
theorem dX4_init_4 : decode cX4_init 4 = .ok (.aload_n 0, 1) := by decide +kernel
theorem dX4_init_5 : decode cX4_init 5 = .ok (.iconst (-1), 1) := by decide +kernel
theorem dX4_init_6 : decode cX4_init 6 = .ok (.putfield 9, 3) := by decide +kernel
theorem dX4_init_9 : decode cX4_init 9 = .ok (.aload_n 0, 1) := by decide +kernel
theorem dX4_init_10 : decode cX4_init 10 = .ok (.iconst 0, 1) := by decide +kernel
theorem dX4_init_11 : decode cX4_init 11 = .ok (.putfield 15, 3) := by decide +kernel
theorem dX4_init_14 : decode cX4_init 14 = .ok (.aload_n 0, 1) := by decide +kernel
theorem dX4_init_15 : decode cX4_init 15 = .ok (.bipush 24, 2) := by decide +kernel
theorem dX4_init_17 : decode cX4_init 17 = .ok (.newarray .int, 2) := by decide +kernel
theorem dX4_init_19 : decode cX4_init 19 = .ok (.putfield 18, 3) := by decide +kernel
theorem dX4_init_22 : decode cX4_init 22 = .ok (.return_, 1) := by decide +kernel
theorem dX4_has_0 : decode cX4_has 0 = .ok (.iload_n 1, 1) := by decide +kernel
theorem dX4_has_1 : decode cX4_has 1 = .ok (.iconst 0, 1) := by decide +kernel
theorem dX4_has_2 : decode cX4_has 2 = .ok (.aload_n 0, 1) := by decide +kernel
theorem dX4_has_3 : decode cX4_has 3 = .ok (.getfield 15, 3) := by decide +kernel
theorem dX4_has_6 : decode cX4_has 6 = .ok (.iconst 1, 1) := by decide +kernel
theorem dX4_has_7 : decode cX4_has 7 = .ok (.isub, 1) := by decide +kernel
theorem dX4_has_8 : decode cX4_has 8 = .ok (.invokestatic 22, 3) := by decide +kernel
theorem dX4_has_11 : decode cX4_has 11 = .ok (.ireturn, 1) := by decide +kernel
theorem dX4_hasRun_0 : decode cX4_hasRun 0 = .ok (.iload_n 1, 1) := by decide +kernel
theorem dX4_hasRun_1 : decode cX4_hasRun 1 = .ok (.ifCond .lt 29, 3) := by decide +kernel
theorem dX4_hasRun_4 : decode cX4_hasRun 4 = .ok (.iload_n 2, 1) := by decide +kernel
theorem dX4_hasRun_5 : decode cX4_hasRun 5 = .ok (.ifCond .lt 25, 3) := by decide +kernel
theorem dX4_hasRun_8 : decode cX4_hasRun 8 = .ok (.iload_n 2, 1) := by decide +kernel
theorem dX4_hasRun_9 : decode cX4_hasRun 9 = .ok (.aload_n 0, 1) := by decide +kernel
theorem dX4_hasRun_10 : decode cX4_hasRun 10 = .ok (.getfield 15, 3) := by decide +kernel
theorem dX4_hasRun_13 : decode cX4_hasRun 13 = .ok (.if_icmp .gt 17, 3) := by decide +kernel
theorem dX4_hasRun_16 : decode cX4_hasRun 16 = .ok (.iload_n 1, 1) := by decide +kernel
theorem dX4_hasRun_17 : decode cX4_hasRun 17 = .ok (.aload_n 0, 1) := by decide +kernel
theorem dX4_hasRun_18 : decode cX4_hasRun 18 = .ok (.getfield 15, 3) := by decide +kernel
theorem dX4_hasRun_21 : decode cX4_hasRun 21 = .ok (.iload_n 2, 1) := by decide +kernel
theorem dX4_hasRun_22 : decode cX4_hasRun 22 = .ok (.isub, 1) := by decide +kernel
theorem dX4_hasRun_23 : decode cX4_hasRun 23 = .ok (.if_icmp .gt 7, 3) := by decide +kernel
theorem dX4_hasRun_26 : decode cX4_hasRun 26 = .ok (.iconst 1, 1) := by decide +kernel
theorem dX4_hasRun_27 : decode cX4_hasRun 27 = .ok (.goto 4, 3) := by decide +kernel
theorem dX4_hasRun_30 : decode cX4_hasRun 30 = .ok (.iconst 0, 1) := by decide +kernel
theorem dX4_hasRun_31 : decode cX4_hasRun 31 = .ok (.ireturn, 1) := by decide +kernel
theorem dX4_becomes_0 : decode cX4_becomes 0 = .ok (.aload_n 0, 1) := by decide +kernel
theorem dX4_becomes_1 : decode cX4_becomes 1 = .ok (.iload_n 1, 1) := by decide +kernel
theorem dX4_becomes_2 : decode cX4_becomes 2 = .ok (.putfield 9, 3) := by decide +kernel
theorem dX4_becomes_5 : decode cX4_becomes 5 = .ok (.aload_n 0, 1) := by decide +kernel
theorem dX4_becomes_6 : decode cX4_becomes 6 = .ok (.iload_n 2, 1) := by decide +kernel
theorem dX4_becomes_7 : decode cX4_becomes 7 = .ok (.putfield 15, 3) := by decide +kernel
theorem dX4_becomes_10 : decode cX4_becomes 10 = .ok (.aload_n 0, 1) := by decide +kernel
theorem dX4_becomes_11 : decode cX4_becomes 11 = .ok (.getfield 18, 3) := by decide +kernel
theorem dX4_becomes_14 : decode cX4_becomes 14 = .ok (.iconst 0, 1) := by decide +kernel
theorem dX4_becomes_15 : decode cX4_becomes 15 = .ok (.invokestatic 26, 3) := by decide +kernel
theorem dX4_becomes_18 : decode cX4_becomes 18 = .ok (.return_, 1) := by decide +kernel
theorem dX4_takeFrom_0 : decode cX4_takeFrom 0 = .ok (.aload_n 0, 1) := by decide +kernel
theorem dX4_takeFrom_1 : decode cX4_takeFrom 1 = .ok (.aload_n 1, 1) := by decide +kernel
theorem dX4_takeFrom_2 : decode cX4_takeFrom 2 = .ok (.getfield 9, 3) := by decide +kernel
theorem dX4_takeFrom_5 : decode cX4_takeFrom 5 = .ok (.putfield 9, 3) := by decide +kernel
theorem dX4_takeFrom_8 : decode cX4_takeFrom 8 = .ok (.aload_n 0, 1) := by decide +kernel
theorem dX4_takeFrom_9 : decode cX4_takeFrom 9 = .ok (.aload_n 1, 1) := by decide +kernel
theorem dX4_takeFrom_10 : decode cX4_takeFrom 10 = .ok (.getfield 15, 3) := by decide +kernel
theorem dX4_takeFrom_13 : decode cX4_takeFrom 13 = .ok (.putfield 15, 3) := by decide +kernel
theorem dX4_takeFrom_16 : decode cX4_takeFrom 16 = .ok (.aload_n 1, 1) := by decide +kernel
theorem dX4_takeFrom_17 : decode cX4_takeFrom 17 = .ok (.getfield 18, 3) := by decide +kernel
theorem dX4_takeFrom_20 : decode cX4_takeFrom 20 = .ok (.iconst 0, 1) := by decide +kernel
theorem dX4_takeFrom_21 : decode cX4_takeFrom 21 = .ok (.aload_n 0, 1) := by decide +kernel
theorem dX4_takeFrom_22 : decode cX4_takeFrom 22 = .ok (.getfield 18, 3) := by decide +kernel
theorem dX4_takeFrom_25 : decode cX4_takeFrom 25 = .ok (.iconst 0, 1) := by decide +kernel
theorem dX4_takeFrom_26 : decode cX4_takeFrom 26 = .ok (.aload_n 0, 1) := by decide +kernel
theorem dX4_takeFrom_27 : decode cX4_takeFrom 27 = .ok (.getfield 15, 3) := by decide +kernel
theorem dX4_takeFrom_30 : decode cX4_takeFrom 30 = .ok (.invokestatic 32, 3) := by decide +kernel
theorem dX4_takeFrom_33 : decode cX4_takeFrom 33 = .ok (.return_, 1) := by decide +kernel
theorem dX4_differences_0 : decode cX4_differences 0 = .ok (.iconst 0, 1) := by decide +kernel
theorem dX4_differences_1 : decode cX4_differences 1 = .ok (.istore_n 2, 1) := by decide +kernel
theorem dX4_differences_2 : decode cX4_differences 2 = .ok (.iconst 0, 1) := by decide +kernel
theorem dX4_differences_3 : decode cX4_differences 3 = .ok (.istore_n 3, 1) := by decide +kernel
theorem dX4_differences_4 : decode cX4_differences 4 = .ok (.iload_n 3, 1) := by decide +kernel
theorem dX4_differences_5 : decode cX4_differences 5 = .ok (.aload_n 0, 1) := by decide +kernel
theorem dX4_differences_6 : decode cX4_differences 6 = .ok (.getfield 15, 3) := by decide +kernel
theorem dX4_differences_9 : decode cX4_differences 9 = .ok (.if_icmp .ge 55, 3) := by decide +kernel
theorem dX4_differences_12 : decode cX4_differences 12 = .ok (.aload_n 0, 1) := by decide +kernel
theorem dX4_differences_13 : decode cX4_differences 13 = .ok (.getfield 18, 3) := by decide +kernel
theorem dX4_differences_16 : decode cX4_differences 16 = .ok (.iload_n 3, 1) := by decide +kernel
theorem dX4_differences_17 : decode cX4_differences 17 = .ok (.iaload, 1) := by decide +kernel
theorem dX4_differences_18 : decode cX4_differences 18 = .ok (.ldc 38, 2) := by decide +kernel
theorem dX4_differences_20 : decode cX4_differences 20 = .ok (.if_icmp .eq 38, 3) := by decide +kernel
theorem dX4_differences_23 : decode cX4_differences 23 = .ok (.aload_n 1, 1) := by decide +kernel
theorem dX4_differences_24 : decode cX4_differences 24 = .ok (.iload_n 3, 1) := by decide +kernel
theorem dX4_differences_25 : decode cX4_differences 25 = .ok (.invokevirtual 39, 3) := by decide +kernel
theorem dX4_differences_28 : decode cX4_differences 28 = .ok (.ifCond .eq 12, 3) := by decide +kernel
theorem dX4_differences_31 : decode cX4_differences 31 = .ok (.aload_n 1, 1) := by decide +kernel
theorem dX4_differences_32 : decode cX4_differences 32 = .ok (.getfield 45, 3) := by decide +kernel
theorem dX4_differences_35 : decode cX4_differences 35 = .ok (.iload_n 3, 1) := by decide +kernel
theorem dX4_differences_36 : decode cX4_differences 36 = .ok (.iaload, 1) := by decide +kernel
theorem dX4_differences_37 : decode cX4_differences 37 = .ok (.goto 4, 3) := by decide +kernel
theorem dX4_differences_40 : decode cX4_differences 40 = .ok (.iconst 0, 1) := by decide +kernel
theorem dX4_differences_41 : decode cX4_differences 41 = .ok (.istore 4, 2) := by decide +kernel
theorem dX4_differences_43 : decode cX4_differences 43 = .ok (.iload_n 2, 1) := by decide +kernel
theorem dX4_differences_44 : decode cX4_differences 44 = .ok (.aload_n 0, 1) := by decide +kernel
theorem dX4_differences_45 : decode cX4_differences 45 = .ok (.getfield 18, 3) := by decide +kernel
theorem dX4_differences_48 : decode cX4_differences 48 = .ok (.iload_n 3, 1) := by decide +kernel
theorem dX4_differences_49 : decode cX4_differences 49 = .ok (.iaload, 1) := by decide +kernel
theorem dX4_differences_50 : decode cX4_differences 50 = .ok (.iload 4, 2) := by decide +kernel
theorem dX4_differences_52 : decode cX4_differences 52 = .ok (.isub, 1) := by decide +kernel
theorem dX4_differences_53 : decode cX4_differences 53 = .ok (.invokestatic 48, 3) := by decide +kernel
theorem dX4_differences_56 : decode cX4_differences 56 = .ok (.iadd, 1) := by decide +kernel
theorem dX4_differences_57 : decode cX4_differences 57 = .ok (.istore_n 2, 1) := by decide +kernel
theorem dX4_differences_58 : decode cX4_differences 58 = .ok (.iinc 3 1, 3) := by decide +kernel
theorem dX4_differences_61 : decode cX4_differences 61 = .ok (.goto (-57), 3) := by decide +kernel
theorem dX4_differences_64 : decode cX4_differences 64 = .ok (.iload_n 2, 1) := by decide +kernel
theorem dX4_differences_65 : decode cX4_differences 65 = .ok (.ireturn, 1) := by decide +kernel
theorem dX5_init_0 : decode cX5_init 0 = .ok (.aload_n 0, 1) := by decide +kernel
theorem dX5_init_1 : decode cX5_init 1 = .ok (.invokespecial 3, 3) := by decide +kernel
theorem dX5_init_4 : decode cX5_init 4 = .ok (.aload_n 0, 1) := by decide +kernel
theorem dX5_init_5 : decode cX5_init 5 = .ok (.iconst 0, 1) := by decide +kernel
theorem dX5_init_6 : decode cX5_init 6 = .ok (.putfield 9, 3) := by decide +kernel
theorem dX5_init_9 : decode cX5_init 9 = .ok (.aload_n 0, 1) := by decide +kernel
theorem dX5_init_10 : decode cX5_init 10 = .ok (.iconst 0, 1) := by decide +kernel
theorem dX5_init_11 : decode cX5_init 11 = .ok (.putfield 15, 3) := by decide +kernel
theorem dX5_init_14 : decode cX5_init 14 = .ok (.aload_n 0, 1) := by decide +kernel
theorem dX5_init_15 : decode cX5_init 15 = .ok (.new 18, 3) := by decide +kernel
theorem dX5_init_18 : decode cX5_init 18 = .ok (.dup, 1) := by decide +kernel
theorem dX5_init_19 : decode cX5_init 19 = .ok (.invokespecial 20, 3) := by decide +kernel
theorem dX5_init_22 : decode cX5_init 22 = .ok (.putfield 21, 3) := by decide +kernel
theorem dX5_init_25 : decode cX5_init 25 = .ok (.aload_n 0, 1) := by decide +kernel
theorem dX5_init_26 : decode cX5_init 26 = .ok (.new 25, 3) := by decide +kernel
theorem dX5_init_29 : decode cX5_init 29 = .ok (.dup, 1) := by decide +kernel
theorem dX5_init_30 : decode cX5_init 30 = .ok (.invokespecial 27, 3) := by decide +kernel
theorem dX5_init_33 : decode cX5_init 33 = .ok (.putfield 28, 3) := by decide +kernel
theorem dX5_init_36 : decode cX5_init 36 = .ok (.return_, 1) := by decide +kernel
theorem dX6_init_0 : decode cX6_init 0 = .ok (.aload_n 0, 1) := by decide +kernel
theorem dX6_init_1 : decode cX6_init 1 = .ok (.invokespecial 3, 3) := by decide +kernel
theorem dX6_init_4 : decode cX6_init 4 = .ok (.aload_n 0, 1) := by decide +kernel
theorem dX6_init_5 : decode cX6_init 5 = .ok (.bipush 96, 2) := by decide +kernel
theorem dX6_init_7 : decode cX6_init 7 = .ok (.newarray .int, 2) := by decide +kernel
theorem dX6_init_9 : decode cX6_init 9 = .ok (.putfield 9, 3) := by decide +kernel
theorem dX6_init_12 : decode cX6_init 12 = .ok (.aload_n 0, 1) := by decide +kernel
theorem dX6_init_13 : decode cX6_init 13 = .ok (.iconst 0, 1) := by decide +kernel
theorem dX6_init_14 : decode cX6_init 14 = .ok (.putfield 15, 3) := by decide +kernel
theorem dX6_init_17 : decode cX6_init 17 = .ok (.aload_n 0, 1) := by decide +kernel
theorem dX6_init_18 : decode cX6_init 18 = .ok (.iconst 0, 1) := by decide +kernel
theorem dX6_init_19 : decode cX6_init 19 = .ok (.putfield 19, 3) := by decide +kernel
theorem dX6_init_22 : decode cX6_init 22 = .ok (.aload_n 0, 1) := by decide +kernel
theorem dX6_init_23 : decode cX6_init 23 = .ok (.iconst 0, 1) := by decide +kernel
theorem dX6_init_24 : decode cX6_init 24 = .ok (.putfield 22, 3) := by decide +kernel
theorem dX6_init_27 : decode cX6_init 27 = .ok (.aload_n 0, 1) := by decide +kernel
theorem dX6_init_28 : decode cX6_init 28 = .ok (.bipush 96, 2) := by decide +kernel
theorem dX6_init_30 : decode cX6_init 30 = .ok (.newarray .int, 2) := by decide +kernel
theorem dX6_init_32 : decode cX6_init 32 = .ok (.putfield 25, 3) := by decide +kernel
theorem dX6_init_35 : decode cX6_init 35 = .ok (.aload_n 0, 1) := by decide +kernel
theorem dX6_init_36 : decode cX6_init 36 = .ok (.iconst 0, 1) := by decide +kernel
theorem dX6_init_37 : decode cX6_init 37 = .ok (.putfield 28, 3) := by decide +kernel
theorem dX6_init_40 : decode cX6_init 40 = .ok (.aload_n 0, 1) := by decide +kernel
theorem dX6_init_41 : decode cX6_init 41 = .ok (.iconst 0, 1) := by decide +kernel
theorem dX6_init_42 : decode cX6_init 42 = .ok (.putfield 31, 3) := by decide +kernel
theorem dX6_init_45 : decode cX6_init 45 = .ok (.aload_n 0, 1) := by decide +kernel
theorem dX6_init_46 : decode cX6_init 46 = .ok (.iconst 0, 1) := by decide +kernel
theorem dX6_init_47 : decode cX6_init 47 = .ok (.putfield 34, 3) := by decide +kernel
theorem dX6_init_50 : decode cX6_init 50 = .ok (.aload_n 0, 1) := by decide +kernel
theorem dX6_init_51 : decode cX6_init 51 = .ok (.iconst 1, 1) := by decide +kernel
theorem dX6_init_52 : decode cX6_init 52 = .ok (.putfield 37, 3) := by decide +kernel
theorem dX6_init_55 : decode cX6_init 55 = .ok (.return_, 1) := by decide +kernel
theorem dX6_takesNumber_0 : decode cX6_takesNumber 0 = .ok (.bipush 24, 2) := by decide +kernel
theorem dX6_takesNumber_2 : decode cX6_takesNumber 2 = .ok (.istore_n 2, 1) := by decide +kernel
theorem dX6_takesNumber_3 : decode cX6_takesNumber 3 = .ok (.iload_n 2, 1) := by decide +kernel
theorem dX6_takesNumber_4 : decode cX6_takesNumber 4 = .ok (.ifCond .lt 47, 3) := by decide +kernel
theorem dX6_takesNumber_7 : decode cX6_takesNumber 7 = .ok (.aload_n 0, 1) := by decide +kernel
theorem dX6_takesNumber_8 : decode cX6_takesNumber 8 = .ok (.getfield 15, 3) := by decide +kernel
theorem dX6_takesNumber_11 : decode cX6_takesNumber 11 = .ok (.aload_n 0, 1) := by decide +kernel
theorem dX6_takesNumber_12 : decode cX6_takesNumber 12 = .ok (.getfield 9, 3) := by decide +kernel
theorem dX6_takesNumber_15 : decode cX6_takesNumber 15 = .ok (.arraylength, 1) := by decide +kernel
theorem dX6_takesNumber_16 : decode cX6_takesNumber 16 = .ok (.if_icmp .ge 35, 3) := by decide +kernel
theorem dX6_takesNumber_19 : decode cX6_takesNumber 19 = .ok (.aload_n 0, 1) := by decide +kernel
theorem dX6_takesNumber_20 : decode cX6_takesNumber 20 = .ok (.getfield 9, 3) := by decide +kernel
theorem dX6_takesNumber_23 : decode cX6_takesNumber 23 = .ok (.aload_n 0, 1) := by decide +kernel
theorem dX6_takesNumber_24 : decode cX6_takesNumber 24 = .ok (.getfield 15, 3) := by decide +kernel
theorem dX6_takesNumber_27 : decode cX6_takesNumber 27 = .ok (.iload_n 1, 1) := by decide +kernel
theorem dX6_takesNumber_28 : decode cX6_takesNumber 28 = .ok (.iload_n 2, 1) := by decide +kernel
theorem dX6_takesNumber_29 : decode cX6_takesNumber 29 = .ok (.iushr, 1) := by decide +kernel
theorem dX6_takesNumber_30 : decode cX6_takesNumber 30 = .ok (.sipush 255, 3) := by decide +kernel
theorem dX6_takesNumber_33 : decode cX6_takesNumber 33 = .ok (.iand, 1) := by decide +kernel
theorem dX6_takesNumber_34 : decode cX6_takesNumber 34 = .ok (.iastore, 1) := by decide +kernel
theorem dX6_takesNumber_35 : decode cX6_takesNumber 35 = .ok (.aload_n 0, 1) := by decide +kernel
theorem dX6_takesNumber_36 : decode cX6_takesNumber 36 = .ok (.dup, 1) := by decide +kernel
theorem dX6_takesNumber_37 : decode cX6_takesNumber 37 = .ok (.getfield 15, 3) := by decide +kernel
theorem dX6_takesNumber_40 : decode cX6_takesNumber 40 = .ok (.iconst 1, 1) := by decide +kernel
theorem dX6_takesNumber_41 : decode cX6_takesNumber 41 = .ok (.iadd, 1) := by decide +kernel
theorem dX6_takesNumber_42 : decode cX6_takesNumber 42 = .ok (.putfield 15, 3) := by decide +kernel
theorem dX6_takesNumber_45 : decode cX6_takesNumber 45 = .ok (.iinc 2 (-8), 3) := by decide +kernel
theorem dX6_takesNumber_48 : decode cX6_takesNumber 48 = .ok (.goto (-45), 3) := by decide +kernel
theorem dX6_takesNumber_51 : decode cX6_takesNumber 51 = .ok (.return_, 1) := by decide +kernel
theorem dX6_readInto_0 : decode cX6_readInto 0 = .ok (.aload_n 0, 1) := by decide +kernel
theorem dX6_readInto_1 : decode cX6_readInto 1 = .ok (.iconst 0, 1) := by decide +kernel
theorem dX6_readInto_2 : decode cX6_readInto 2 = .ok (.putfield 22, 3) := by decide +kernel
theorem dX6_readInto_5 : decode cX6_readInto 5 = .ok (.aload_n 0, 1) := by decide +kernel
theorem dX6_readInto_6 : decode cX6_readInto 6 = .ok (.iconst 0, 1) := by decide +kernel
theorem dX6_readInto_7 : decode cX6_readInto 7 = .ok (.putfield 28, 3) := by decide +kernel
theorem dX6_readInto_10 : decode cX6_readInto 10 = .ok (.aload_n 0, 1) := by decide +kernel
theorem dX6_readInto_11 : decode cX6_readInto 11 = .ok (.iconst 0, 1) := by decide +kernel
theorem dX6_readInto_12 : decode cX6_readInto 12 = .ok (.putfield 31, 3) := by decide +kernel
theorem dX6_readInto_15 : decode cX6_readInto 15 = .ok (.aload_n 0, 1) := by decide +kernel
theorem dX6_readInto_16 : decode cX6_readInto 16 = .ok (.iconst 0, 1) := by decide +kernel
theorem dX6_readInto_17 : decode cX6_readInto 17 = .ok (.putfield 34, 3) := by decide +kernel
theorem dX6_readInto_20 : decode cX6_readInto 20 = .ok (.aload_n 0, 1) := by decide +kernel
theorem dX6_readInto_21 : decode cX6_readInto 21 = .ok (.iconst 1, 1) := by decide +kernel
theorem dX6_readInto_22 : decode cX6_readInto 22 = .ok (.putfield 37, 3) := by decide +kernel
theorem dX6_readInto_25 : decode cX6_readInto 25 = .ok (.aload_n 0, 1) := by decide +kernel
theorem dX6_readInto_26 : decode cX6_readInto 26 = .ok (.invokevirtual 41, 3) := by decide +kernel
theorem dX6_readInto_29 : decode cX6_readInto 29 = .ok (.aload_n 0, 1) := by decide +kernel
theorem dX6_readInto_30 : decode cX6_readInto 30 = .ok (.invokevirtual 44, 3) := by decide +kernel
theorem dX6_readInto_33 : decode cX6_readInto 33 = .ok (.istore_n 2, 1) := by decide +kernel
theorem dX6_readInto_34 : decode cX6_readInto 34 = .ok (.iload_n 2, 1) := by decide +kernel
theorem dX6_readInto_35 : decode cX6_readInto 35 = .ok (.ifCond .ge 8, 3) := by decide +kernel
theorem dX6_readInto_38 : decode cX6_readInto 38 = .ok (.aload_n 0, 1) := by decide +kernel
theorem dX6_readInto_39 : decode cX6_readInto 39 = .ok (.getfield 19, 3) := by decide +kernel
theorem dX6_readInto_42 : decode cX6_readInto 42 = .ok (.ireturn, 1) := by decide +kernel
theorem dX6_readInto_43 : decode cX6_readInto 43 = .ok (.aload_n 1, 1) := by decide +kernel
theorem dX6_readInto_44 : decode cX6_readInto 44 = .ok (.iload_n 2, 1) := by decide +kernel
theorem dX6_readInto_45 : decode cX6_readInto 45 = .ok (.invokevirtual 48, 3) := by decide +kernel
theorem dX6_readInto_48 : decode cX6_readInto 48 = .ok (.aload_n 0, 1) := by decide +kernel
theorem dX6_readInto_49 : decode cX6_readInto 49 = .ok (.getfield 22, 3) := by decide +kernel
theorem dX6_readInto_52 : decode cX6_readInto 52 = .ok (.istore_n 3, 1) := by decide +kernel
theorem dX6_readInto_53 : decode cX6_readInto 53 = .ok (.aload_n 0, 1) := by decide +kernel
theorem dX6_readInto_54 : decode cX6_readInto 54 = .ok (.invokevirtual 41, 3) := by decide +kernel
theorem dX6_readInto_57 : decode cX6_readInto 57 = .ok (.aload_n 0, 1) := by decide +kernel
theorem dX6_readInto_58 : decode cX6_readInto 58 = .ok (.getfield 19, 3) := by decide +kernel
theorem dX6_readInto_61 : decode cX6_readInto 61 = .ok (.iload_n 3, 1) := by decide +kernel
theorem dX6_readInto_62 : decode cX6_readInto 62 = .ok (.if_icmp .ne 15, 3) := by decide +kernel
theorem dX6_readInto_65 : decode cX6_readInto 65 = .ok (.aload_n 0, 1) := by decide +kernel
theorem dX6_readInto_66 : decode cX6_readInto 66 = .ok (.invokevirtual 54, 3) := by decide +kernel
theorem dX6_readInto_69 : decode cX6_readInto 69 = .ok (.ifCond .eq 8, 3) := by decide +kernel
theorem dX6_readInto_72 : decode cX6_readInto 72 = .ok (.aload_n 0, 1) := by decide +kernel
theorem dX6_readInto_73 : decode cX6_readInto 73 = .ok (.getfield 19, 3) := by decide +kernel
theorem dX6_readInto_76 : decode cX6_readInto 76 = .ok (.ireturn, 1) := by decide +kernel
theorem dX6_readInto_77 : decode cX6_readInto 77 = .ok (.iconst 0, 1) := by decide +kernel
theorem dX6_readInto_78 : decode cX6_readInto 78 = .ok (.istore 4, 2) := by decide +kernel
theorem dX6_readInto_80 : decode cX6_readInto 80 = .ok (.iload 4, 2) := by decide +kernel
theorem dX6_readInto_82 : decode cX6_readInto 82 = .ok (.bipush 96, 2) := by decide +kernel
theorem dX6_readInto_84 : decode cX6_readInto 84 = .ok (.if_icmp .ge 56, 3) := by decide +kernel
theorem dX6_readInto_87 : decode cX6_readInto 87 = .ok (.aload_n 0, 1) := by decide +kernel
theorem dX6_readInto_88 : decode cX6_readInto 88 = .ok (.getfield 19, 3) := by decide +kernel
theorem dX6_readInto_91 : decode cX6_readInto 91 = .ok (.aload_n 0, 1) := by decide +kernel
theorem dX6_readInto_92 : decode cX6_readInto 92 = .ok (.getfield 15, 3) := by decide +kernel
theorem dX6_readInto_95 : decode cX6_readInto 95 = .ok (.if_icmp .ge 45, 3) := by decide +kernel
theorem dX6_readInto_98 : decode cX6_readInto 98 = .ok (.aload_n 0, 1) := by decide +kernel
theorem dX6_readInto_99 : decode cX6_readInto 99 = .ok (.getfield 37, 3) := by decide +kernel
theorem dX6_readInto_102 : decode cX6_readInto 102 = .ok (.ifCond .eq 11, 3) := by decide +kernel
theorem dX6_readInto_105 : decode cX6_readInto 105 = .ok (.aload_n 0, 1) := by decide +kernel
theorem dX6_readInto_106 : decode cX6_readInto 106 = .ok (.aload_n 1, 1) := by decide +kernel
theorem dX6_readInto_107 : decode cX6_readInto 107 = .ok (.invokevirtual 57, 3) := by decide +kernel
theorem dX6_readInto_110 : decode cX6_readInto 110 = .ok (.goto 8, 3) := by decide +kernel
theorem dX6_readInto_113 : decode cX6_readInto 113 = .ok (.aload_n 0, 1) := by decide +kernel
theorem dX6_readInto_114 : decode cX6_readInto 114 = .ok (.aload_n 1, 1) := by decide +kernel
theorem dX6_readInto_115 : decode cX6_readInto 115 = .ok (.invokevirtual 61, 3) := by decide +kernel
theorem dX6_readInto_118 : decode cX6_readInto 118 = .ok (.istore 5, 2) := by decide +kernel
theorem dX6_readInto_120 : decode cX6_readInto 120 = .ok (.iload 5, 2) := by decide +kernel
theorem dX6_readInto_122 : decode cX6_readInto 122 = .ok (.ifCond .ne 8, 3) := by decide +kernel
theorem dX6_readInto_125 : decode cX6_readInto 125 = .ok (.aload_n 0, 1) := by decide +kernel
theorem dX6_readInto_126 : decode cX6_readInto 126 = .ok (.getfield 19, 3) := by decide +kernel
theorem dX6_readInto_129 : decode cX6_readInto 129 = .ok (.ireturn, 1) := by decide +kernel
theorem dX6_readInto_130 : decode cX6_readInto 130 = .ok (.aload_n 0, 1) := by decide +kernel
theorem dX6_readInto_131 : decode cX6_readInto 131 = .ok (.invokevirtual 41, 3) := by decide +kernel
theorem dX6_readInto_134 : decode cX6_readInto 134 = .ok (.iinc 4 1, 3) := by decide +kernel
theorem dX6_readInto_137 : decode cX6_readInto 137 = .ok (.goto (-57), 3) := by decide +kernel
theorem dX6_readInto_140 : decode cX6_readInto 140 = .ok (.aload_n 0, 1) := by decide +kernel
theorem dX6_readInto_141 : decode cX6_readInto 141 = .ok (.getfield 37, 3) := by decide +kernel
theorem dX6_readInto_144 : decode cX6_readInto 144 = .ok (.ifCond .ne 10, 3) := by decide +kernel
theorem dX6_readInto_147 : decode cX6_readInto 147 = .ok (.aload_n 0, 1) := by decide +kernel
theorem dX6_readInto_148 : decode cX6_readInto 148 = .ok (.getfield 31, 3) := by decide +kernel
theorem dX6_readInto_151 : decode cX6_readInto 151 = .ok (.ifCond .le 8, 3) := by decide +kernel
theorem dX6_readInto_154 : decode cX6_readInto 154 = .ok (.aload_n 0, 1) := by decide +kernel
theorem dX6_readInto_155 : decode cX6_readInto 155 = .ok (.getfield 15, 3) := by decide +kernel
theorem dX6_readInto_158 : decode cX6_readInto 158 = .ok (.ireturn, 1) := by decide +kernel
theorem dX6_readInto_159 : decode cX6_readInto 159 = .ok (.aload_n 0, 1) := by decide +kernel
theorem dX6_readInto_160 : decode cX6_readInto 160 = .ok (.iconst 1, 1) := by decide +kernel
theorem dX6_readInto_161 : decode cX6_readInto 161 = .ok (.aload_n 1, 1) := by decide +kernel
theorem dX6_readInto_162 : decode cX6_readInto 162 = .ok (.invokevirtual 64, 3) := by decide +kernel
theorem dX6_readInto_165 : decode cX6_readInto 165 = .ok (.iconst (-1), 1) := by decide +kernel
theorem dX6_readInto_166 : decode cX6_readInto 166 = .ok (.ireturn, 1) := by decide +kernel
theorem dX6_steps_0 : decode cX6_steps 0 = .ok (.aload_n 0, 1) := by decide +kernel
theorem dX6_steps_1 : decode cX6_steps 1 = .ok (.aload_n 0, 1) := by decide +kernel
theorem dX6_steps_2 : decode cX6_steps 2 = .ok (.getfield 22, 3) := by decide +kernel
theorem dX6_steps_5 : decode cX6_steps 5 = .ok (.putfield 19, 3) := by decide +kernel
theorem dX6_steps_8 : decode cX6_steps 8 = .ok (.aload_n 0, 1) := by decide +kernel
theorem dX6_steps_9 : decode cX6_steps 9 = .ok (.getfield 19, 3) := by decide +kernel
theorem dX6_steps_12 : decode cX6_steps 12 = .ok (.aload_n 0, 1) := by decide +kernel
theorem dX6_steps_13 : decode cX6_steps 13 = .ok (.getfield 15, 3) := by decide +kernel
theorem dX6_steps_16 : decode cX6_steps 16 = .ok (.if_icmp .ge 30, 3) := by decide +kernel
theorem dX6_steps_19 : decode cX6_steps 19 = .ok (.aload_n 0, 1) := by decide +kernel
theorem dX6_steps_20 : decode cX6_steps 20 = .ok (.getfield 9, 3) := by decide +kernel
theorem dX6_steps_23 : decode cX6_steps 23 = .ok (.aload_n 0, 1) := by decide +kernel
theorem dX6_steps_24 : decode cX6_steps 24 = .ok (.getfield 19, 3) := by decide +kernel
theorem dX6_steps_27 : decode cX6_steps 27 = .ok (.iaload, 1) := by decide +kernel
theorem dX6_steps_28 : decode cX6_steps 28 = .ok (.bipush 32, 2) := by decide +kernel
theorem dX6_steps_30 : decode cX6_steps 30 = .ok (.if_icmp .ne 16, 3) := by decide +kernel
theorem dX6_steps_33 : decode cX6_steps 33 = .ok (.aload_n 0, 1) := by decide +kernel
theorem dX6_steps_34 : decode cX6_steps 34 = .ok (.dup, 1) := by decide +kernel
theorem dX6_steps_35 : decode cX6_steps 35 = .ok (.getfield 19, 3) := by decide +kernel
theorem dX6_steps_38 : decode cX6_steps 38 = .ok (.iconst 1, 1) := by decide +kernel
theorem dX6_steps_39 : decode cX6_steps 39 = .ok (.iadd, 1) := by decide +kernel
theorem dX6_steps_40 : decode cX6_steps 40 = .ok (.putfield 19, 3) := by decide +kernel
theorem dX6_steps_43 : decode cX6_steps 43 = .ok (.goto (-35), 3) := by decide +kernel
theorem dX6_steps_46 : decode cX6_steps 46 = .ok (.aload_n 0, 1) := by decide +kernel
theorem dX6_steps_47 : decode cX6_steps 47 = .ok (.aload_n 0, 1) := by decide +kernel
theorem dX6_steps_48 : decode cX6_steps 48 = .ok (.getfield 15, 3) := by decide +kernel
theorem dX6_steps_51 : decode cX6_steps 51 = .ok (.aload_n 0, 1) := by decide +kernel
theorem dX6_steps_52 : decode cX6_steps 52 = .ok (.getfield 19, 3) := by decide +kernel
theorem dX6_steps_55 : decode cX6_steps 55 = .ok (.iconst 1, 1) := by decide +kernel
theorem dX6_steps_56 : decode cX6_steps 56 = .ok (.iadd, 1) := by decide +kernel
theorem dX6_steps_57 : decode cX6_steps 57 = .ok (.invokestatic 68, 3) := by decide +kernel
theorem dX6_steps_60 : decode cX6_steps 60 = .ok (.putfield 22, 3) := by decide +kernel
theorem dX6_steps_63 : decode cX6_steps 63 = .ok (.aload_n 0, 1) := by decide +kernel
theorem dX6_steps_64 : decode cX6_steps 64 = .ok (.invokevirtual 54, 3) := by decide +kernel
theorem dX6_steps_67 : decode cX6_steps 67 = .ok (.istore_n 1, 1) := by decide +kernel
theorem dX6_steps_68 : decode cX6_steps 68 = .ok (.iload_n 1, 1) := by decide +kernel
theorem dX6_steps_69 : decode cX6_steps 69 = .ok (.ifCond .eq 43, 3) := by decide +kernel
theorem dX6_steps_72 : decode cX6_steps 72 = .ok (.aload_n 0, 1) := by decide +kernel
theorem dX6_steps_73 : decode cX6_steps 73 = .ok (.getfield 22, 3) := by decide +kernel
theorem dX6_steps_76 : decode cX6_steps 76 = .ok (.aload_n 0, 1) := by decide +kernel
theorem dX6_steps_77 : decode cX6_steps 77 = .ok (.getfield 15, 3) := by decide +kernel
theorem dX6_steps_80 : decode cX6_steps 80 = .ok (.if_icmp .ge 32, 3) := by decide +kernel
theorem dX6_steps_83 : decode cX6_steps 83 = .ok (.aload_n 0, 1) := by decide +kernel
theorem dX6_steps_84 : decode cX6_steps 84 = .ok (.getfield 9, 3) := by decide +kernel
theorem dX6_steps_87 : decode cX6_steps 87 = .ok (.aload_n 0, 1) := by decide +kernel
theorem dX6_steps_88 : decode cX6_steps 88 = .ok (.getfield 22, 3) := by decide +kernel
theorem dX6_steps_91 : decode cX6_steps 91 = .ok (.iaload, 1) := by decide +kernel
theorem dX6_steps_92 : decode cX6_steps 92 = .ok (.invokestatic 74, 3) := by decide +kernel
theorem dX6_steps_95 : decode cX6_steps 95 = .ok (.iload_n 1, 1) := by decide +kernel
theorem dX6_steps_96 : decode cX6_steps 96 = .ok (.if_icmp .ne 16, 3) := by decide +kernel
theorem dX6_steps_99 : decode cX6_steps 99 = .ok (.aload_n 0, 1) := by decide +kernel
theorem dX6_steps_100 : decode cX6_steps 100 = .ok (.dup, 1) := by decide +kernel
theorem dX6_steps_101 : decode cX6_steps 101 = .ok (.getfield 22, 3) := by decide +kernel
theorem dX6_steps_104 : decode cX6_steps 104 = .ok (.iconst 1, 1) := by decide +kernel
theorem dX6_steps_105 : decode cX6_steps 105 = .ok (.iadd, 1) := by decide +kernel
theorem dX6_steps_106 : decode cX6_steps 106 = .ok (.putfield 22, 3) := by decide +kernel
theorem dX6_steps_109 : decode cX6_steps 109 = .ok (.goto (-41), 3) := by decide +kernel
theorem dX6_steps_112 : decode cX6_steps 112 = .ok (.return_, 1) := by decide +kernel
theorem dX6_sortHere_0 : decode cX6_sortHere 0 = .ok (.aload_n 0, 1) := by decide +kernel
theorem dX6_sortHere_1 : decode cX6_sortHere 1 = .ok (.getfield 19, 3) := by decide +kernel
theorem dX6_sortHere_4 : decode cX6_sortHere 4 = .ok (.aload_n 0, 1) := by decide +kernel
theorem dX6_sortHere_5 : decode cX6_sortHere 5 = .ok (.getfield 15, 3) := by decide +kernel
theorem dX6_sortHere_8 : decode cX6_sortHere 8 = .ok (.if_icmp .ge 18, 3) := by decide +kernel
theorem dX6_sortHere_11 : decode cX6_sortHere 11 = .ok (.aload_n 0, 1) := by decide +kernel
theorem dX6_sortHere_12 : decode cX6_sortHere 12 = .ok (.getfield 9, 3) := by decide +kernel
theorem dX6_sortHere_15 : decode cX6_sortHere 15 = .ok (.aload_n 0, 1) := by decide +kernel
theorem dX6_sortHere_16 : decode cX6_sortHere 16 = .ok (.getfield 19, 3) := by decide +kernel
theorem dX6_sortHere_19 : decode cX6_sortHere 19 = .ok (.iaload, 1) := by decide +kernel
theorem dX6_sortHere_20 : decode cX6_sortHere 20 = .ok (.invokestatic 74, 3) := by decide +kernel
theorem dX6_sortHere_23 : decode cX6_sortHere 23 = .ok (.goto 4, 3) := by decide +kernel
theorem dX6_sortHere_26 : decode cX6_sortHere 26 = .ok (.iconst 0, 1) := by decide +kernel
theorem dX6_sortHere_27 : decode cX6_sortHere 27 = .ok (.ireturn, 1) := by decide +kernel
theorem dX6_sortOf_0 : decode cX6_sortOf 0 = .ok (.iload_n 0, 1) := by decide +kernel
theorem dX6_sortOf_1 : decode cX6_sortOf 1 = .ok (.bipush 97, 2) := by decide +kernel
theorem dX6_sortOf_3 : decode cX6_sortOf 3 = .ok (.if_icmp .lt 11, 3) := by decide +kernel
theorem dX6_sortOf_6 : decode cX6_sortOf 6 = .ok (.iload_n 0, 1) := by decide +kernel
theorem dX6_sortOf_7 : decode cX6_sortOf 7 = .ok (.bipush 122, 2) := by decide +kernel
theorem dX6_sortOf_9 : decode cX6_sortOf 9 = .ok (.if_icmp .gt 5, 3) := by decide +kernel
theorem dX6_sortOf_12 : decode cX6_sortOf 12 = .ok (.iconst 1, 1) := by decide +kernel
theorem dX6_sortOf_13 : decode cX6_sortOf 13 = .ok (.ireturn, 1) := by decide +kernel
theorem dX6_sortOf_14 : decode cX6_sortOf 14 = .ok (.iload_n 0, 1) := by decide +kernel
theorem dX6_sortOf_15 : decode cX6_sortOf 15 = .ok (.bipush 48, 2) := by decide +kernel
theorem dX6_sortOf_17 : decode cX6_sortOf 17 = .ok (.if_icmp .lt 13, 3) := by decide +kernel
theorem dX6_sortOf_20 : decode cX6_sortOf 20 = .ok (.iload_n 0, 1) := by decide +kernel
theorem dX6_sortOf_21 : decode cX6_sortOf 21 = .ok (.bipush 57, 2) := by decide +kernel
theorem dX6_sortOf_23 : decode cX6_sortOf 23 = .ok (.if_icmp .gt 7, 3) := by decide +kernel
theorem dX6_sortOf_26 : decode cX6_sortOf 26 = .ok (.iconst 2, 1) := by decide +kernel
theorem dX6_sortOf_27 : decode cX6_sortOf 27 = .ok (.goto 4, 3) := by decide +kernel
theorem dX6_sortOf_30 : decode cX6_sortOf 30 = .ok (.iconst 0, 1) := by decide +kernel
theorem dX6_sortOf_31 : decode cX6_sortOf 31 = .ok (.ireturn, 1) := by decide +kernel
theorem dX6_keyHere_0 : decode cX6_keyHere 0 = .ok (.aload_n 0, 1) := by decide +kernel
theorem dX6_keyHere_1 : decode cX6_keyHere 1 = .ok (.ldc 78, 2) := by decide +kernel
theorem dX6_keyHere_3 : decode cX6_keyHere 3 = .ok (.invokevirtual 80, 3) := by decide +kernel
theorem dX6_keyHere_6 : decode cX6_keyHere 6 = .ok (.ifCond .eq 5, 3) := by decide +kernel
theorem dX6_keyHere_9 : decode cX6_keyHere 9 = .ok (.iconst 0, 1) := by decide +kernel
theorem dX6_keyHere_10 : decode cX6_keyHere 10 = .ok (.ireturn, 1) := by decide +kernel
theorem dX6_keyHere_11 : decode cX6_keyHere 11 = .ok (.aload_n 0, 1) := by decide +kernel
theorem dX6_keyHere_12 : decode cX6_keyHere 12 = .ok (.ldc 84, 2) := by decide +kernel
theorem dX6_keyHere_14 : decode cX6_keyHere 14 = .ok (.invokevirtual 80, 3) := by decide +kernel
theorem dX6_keyHere_17 : decode cX6_keyHere 17 = .ok (.ifCond .eq 5, 3) := by decide +kernel
theorem dX6_keyHere_20 : decode cX6_keyHere 20 = .ok (.iconst 1, 1) := by decide +kernel
theorem dX6_keyHere_21 : decode cX6_keyHere 21 = .ok (.ireturn, 1) := by decide +kernel
theorem dX6_keyHere_22 : decode cX6_keyHere 22 = .ok (.aload_n 0, 1) := by decide +kernel
theorem dX6_keyHere_23 : decode cX6_keyHere 23 = .ok (.ldc 86, 2) := by decide +kernel
theorem dX6_keyHere_25 : decode cX6_keyHere 25 = .ok (.invokevirtual 80, 3) := by decide +kernel
theorem dX6_keyHere_28 : decode cX6_keyHere 28 = .ok (.ifCond .eq 7, 3) := by decide +kernel
theorem dX6_keyHere_31 : decode cX6_keyHere 31 = .ok (.iconst 2, 1) := by decide +kernel
theorem dX6_keyHere_32 : decode cX6_keyHere 32 = .ok (.goto 4, 3) := by decide +kernel
theorem dX6_keyHere_35 : decode cX6_keyHere 35 = .ok (.iconst (-1), 1) := by decide +kernel
theorem dX6_keyHere_36 : decode cX6_keyHere 36 = .ok (.ireturn, 1) := by decide +kernel
theorem dX6_isHere_0 : decode cX6_isHere 0 = .ok (.aload_n 0, 1) := by decide +kernel
theorem dX6_isHere_1 : decode cX6_isHere 1 = .ok (.getfield 22, 3) := by decide +kernel
theorem dX6_isHere_4 : decode cX6_isHere 4 = .ok (.aload_n 0, 1) := by decide +kernel
theorem dX6_isHere_5 : decode cX6_isHere 5 = .ok (.getfield 19, 3) := by decide +kernel
theorem dX6_isHere_8 : decode cX6_isHere 8 = .ok (.isub, 1) := by decide +kernel
theorem dX6_isHere_9 : decode cX6_isHere 9 = .ok (.aload_n 1, 1) := by decide +kernel
theorem dX6_isHere_10 : decode cX6_isHere 10 = .ok (.invokevirtual 88, 3) := by decide +kernel
theorem dX6_isHere_13 : decode cX6_isHere 13 = .ok (.if_icmp .eq 5, 3) := by decide +kernel
theorem dX6_isHere_16 : decode cX6_isHere 16 = .ok (.iconst 0, 1) := by decide +kernel
theorem dX6_isHere_17 : decode cX6_isHere 17 = .ok (.ireturn, 1) := by decide +kernel
theorem dX6_isHere_18 : decode cX6_isHere 18 = .ok (.iconst 0, 1) := by decide +kernel
theorem dX6_isHere_19 : decode cX6_isHere 19 = .ok (.istore_n 2, 1) := by decide +kernel
theorem dX6_isHere_20 : decode cX6_isHere 20 = .ok (.iload_n 2, 1) := by decide +kernel
theorem dX6_isHere_21 : decode cX6_isHere 21 = .ok (.aload_n 1, 1) := by decide +kernel
theorem dX6_isHere_22 : decode cX6_isHere 22 = .ok (.invokevirtual 88, 3) := by decide +kernel
theorem dX6_isHere_25 : decode cX6_isHere 25 = .ok (.if_icmp .ge 30, 3) := by decide +kernel
theorem dX6_isHere_28 : decode cX6_isHere 28 = .ok (.aload_n 0, 1) := by decide +kernel
theorem dX6_isHere_29 : decode cX6_isHere 29 = .ok (.getfield 9, 3) := by decide +kernel
theorem dX6_isHere_32 : decode cX6_isHere 32 = .ok (.aload_n 0, 1) := by decide +kernel
theorem dX6_isHere_33 : decode cX6_isHere 33 = .ok (.getfield 19, 3) := by decide +kernel
theorem dX6_isHere_36 : decode cX6_isHere 36 = .ok (.iload_n 2, 1) := by decide +kernel
theorem dX6_isHere_37 : decode cX6_isHere 37 = .ok (.iadd, 1) := by decide +kernel
theorem dX6_isHere_38 : decode cX6_isHere 38 = .ok (.iaload, 1) := by decide +kernel
theorem dX6_isHere_39 : decode cX6_isHere 39 = .ok (.aload_n 1, 1) := by decide +kernel
theorem dX6_isHere_40 : decode cX6_isHere 40 = .ok (.iload_n 2, 1) := by decide +kernel
theorem dX6_isHere_41 : decode cX6_isHere 41 = .ok (.invokevirtual 93, 3) := by decide +kernel
theorem dX6_isHere_44 : decode cX6_isHere 44 = .ok (.if_icmp .eq 5, 3) := by decide +kernel
theorem dX6_isHere_47 : decode cX6_isHere 47 = .ok (.iconst 0, 1) := by decide +kernel
theorem dX6_isHere_48 : decode cX6_isHere 48 = .ok (.ireturn, 1) := by decide +kernel
theorem dX6_isHere_49 : decode cX6_isHere 49 = .ok (.iinc 2 1, 3) := by decide +kernel
theorem dX6_isHere_52 : decode cX6_isHere 52 = .ok (.goto (-32), 3) := by decide +kernel
theorem dX6_isHere_55 : decode cX6_isHere 55 = .ok (.iconst 1, 1) := by decide +kernel
theorem dX6_isHere_56 : decode cX6_isHere 56 = .ok (.ireturn, 1) := by decide +kernel
theorem dX6_takesPiece_0 : decode cX6_takesPiece 0 = .ok (.aload_n 0, 1) := by decide +kernel
theorem dX6_takesPiece_1 : decode cX6_takesPiece 1 = .ok (.invokevirtual 54, 3) := by decide +kernel
theorem dX6_takesPiece_4 : decode cX6_takesPiece 4 = .ok (.lookupswitch 40 #[(1, 28), (2, 34)], 28) := by decide +kernel
theorem dX6_takesPiece_32 : decode cX6_takesPiece 32 = .ok (.aload_n 0, 1) := by decide +kernel
theorem dX6_takesPiece_33 : decode cX6_takesPiece 33 = .ok (.aload_n 1, 1) := by decide +kernel
theorem dX6_takesPiece_34 : decode cX6_takesPiece 34 = .ok (.invokevirtual 97, 3) := by decide +kernel
theorem dX6_takesPiece_37 : decode cX6_takesPiece 37 = .ok (.ireturn, 1) := by decide +kernel
theorem dX6_takesPiece_38 : decode cX6_takesPiece 38 = .ok (.aload_n 0, 1) := by decide +kernel
theorem dX6_takesPiece_39 : decode cX6_takesPiece 39 = .ok (.aload_n 1, 1) := by decide +kernel
theorem dX6_takesPiece_40 : decode cX6_takesPiece 40 = .ok (.invokevirtual 100, 3) := by decide +kernel
theorem dX6_takesPiece_43 : decode cX6_takesPiece 43 = .ok (.ireturn, 1) := by decide +kernel
theorem dX6_takesPiece_44 : decode cX6_takesPiece 44 = .ok (.aload_n 0, 1) := by decide +kernel
theorem dX6_takesPiece_45 : decode cX6_takesPiece 45 = .ok (.aload_n 0, 1) := by decide +kernel
theorem dX6_takesPiece_46 : decode cX6_takesPiece 46 = .ok (.getfield 9, 3) := by decide +kernel
theorem dX6_takesPiece_49 : decode cX6_takesPiece 49 = .ok (.aload_n 0, 1) := by decide +kernel
theorem dX6_takesPiece_50 : decode cX6_takesPiece 50 = .ok (.getfield 19, 3) := by decide +kernel
theorem dX6_takesPiece_53 : decode cX6_takesPiece 53 = .ok (.iaload, 1) := by decide +kernel
theorem dX6_takesPiece_54 : decode cX6_takesPiece 54 = .ok (.invokevirtual 103, 3) := by decide +kernel
theorem dX6_takesPiece_57 : decode cX6_takesPiece 57 = .ok (.ireturn, 1) := by decide +kernel
theorem dX6_takesName_0 : decode cX6_takesName 0 = .ok (.aload_n 1, 1) := by decide +kernel
theorem dX6_takesName_1 : decode cX6_takesName 1 = .ok (.getfield 107, 3) := by decide +kernel
theorem dX6_takesName_4 : decode cX6_takesName 4 = .ok (.invokestatic 110, 3) := by decide +kernel
theorem dX6_takesName_7 : decode cX6_takesName 7 = .ok (.aload_n 0, 1) := by decide +kernel
theorem dX6_takesName_8 : decode cX6_takesName 8 = .ok (.getfield 9, 3) := by decide +kernel
theorem dX6_takesName_11 : decode cX6_takesName 11 = .ok (.aload_n 0, 1) := by decide +kernel
theorem dX6_takesName_12 : decode cX6_takesName 12 = .ok (.getfield 19, 3) := by decide +kernel
theorem dX6_takesName_15 : decode cX6_takesName 15 = .ok (.iaload, 1) := by decide +kernel
theorem dX6_takesName_16 : decode cX6_takesName 16 = .ok (.i2c, 1) := by decide +kernel
theorem dX6_takesName_17 : decode cX6_takesName 17 = .ok (.invokevirtual 114, 3) := by decide +kernel
theorem dX6_takesName_20 : decode cX6_takesName 20 = .ok (.istore_n 2, 1) := by decide +kernel
theorem dX6_takesName_21 : decode cX6_takesName 21 = .ok (.aload_n 0, 1) := by decide +kernel
theorem dX6_takesName_22 : decode cX6_takesName 22 = .ok (.getfield 22, 3) := by decide +kernel
theorem dX6_takesName_25 : decode cX6_takesName 25 = .ok (.aload_n 0, 1) := by decide +kernel
theorem dX6_takesName_26 : decode cX6_takesName 26 = .ok (.getfield 19, 3) := by decide +kernel
theorem dX6_takesName_29 : decode cX6_takesName 29 = .ok (.isub, 1) := by decide +kernel
theorem dX6_takesName_30 : decode cX6_takesName 30 = .ok (.iconst 1, 1) := by decide +kernel
theorem dX6_takesName_31 : decode cX6_takesName 31 = .ok (.if_icmp .ne 7, 3) := by decide +kernel
theorem dX6_takesName_34 : decode cX6_takesName 34 = .ok (.iload_n 2, 1) := by decide +kernel
theorem dX6_takesName_35 : decode cX6_takesName 35 = .ok (.ifCond .ge 5, 3) := by decide +kernel
theorem dX6_takesName_38 : decode cX6_takesName 38 = .ok (.iconst 0, 1) := by decide +kernel
theorem dX6_takesName_39 : decode cX6_takesName 39 = .ok (.ireturn, 1) := by decide +kernel
theorem dX6_takesName_40 : decode cX6_takesName 40 = .ok (.aload_n 1, 1) := by decide +kernel
theorem dX6_takesName_41 : decode cX6_takesName 41 = .ok (.iload_n 2, 1) := by decide +kernel
theorem dX6_takesName_42 : decode cX6_takesName 42 = .ok (.invokevirtual 117, 3) := by decide +kernel
theorem dX6_takesName_45 : decode cX6_takesName 45 = .ok (.aload_n 0, 1) := by decide +kernel
theorem dX6_takesName_46 : decode cX6_takesName 46 = .ok (.aload_n 1, 1) := by decide +kernel
theorem dX6_takesName_47 : decode cX6_takesName 47 = .ok (.invokevirtual 120, 3) := by decide +kernel
theorem dX6_takesName_50 : decode cX6_takesName 50 = .ok (.iconst 1, 1) := by decide +kernel
theorem dX6_takesName_51 : decode cX6_takesName 51 = .ok (.ireturn, 1) := by decide +kernel
theorem dX6_namesOf_0 : decode cX6_namesOf 0 = .ok (.iload_n 0, 1) := by decide +kernel
theorem dX6_namesOf_1 : decode cX6_namesOf 1 = .ok (.ifCond .ne 6, 3) := by decide +kernel
theorem dX6_namesOf_4 : decode cX6_namesOf 4 = .ok (.ldc 124, 2) := by decide +kernel
theorem dX6_namesOf_6 : decode cX6_namesOf 6 = .ok (.areturn, 1) := by decide +kernel
theorem dX6_namesOf_7 : decode cX6_namesOf 7 = .ok (.iload_n 0, 1) := by decide +kernel
theorem dX6_namesOf_8 : decode cX6_namesOf 8 = .ok (.iconst 1, 1) := by decide +kernel
theorem dX6_namesOf_9 : decode cX6_namesOf 9 = .ok (.if_icmp .ne 8, 3) := by decide +kernel
theorem dX6_namesOf_12 : decode cX6_namesOf 12 = .ok (.ldc 126, 2) := by decide +kernel
theorem dX6_namesOf_14 : decode cX6_namesOf 14 = .ok (.goto 5, 3) := by decide +kernel
theorem dX6_namesOf_17 : decode cX6_namesOf 17 = .ok (.ldc 128, 2) := by decide +kernel
theorem dX6_namesOf_19 : decode cX6_namesOf 19 = .ok (.areturn, 1) := by decide +kernel
theorem dX6_takesDigits_0 : decode cX6_takesDigits 0 = .ok (.aload_n 0, 1) := by decide +kernel
theorem dX6_takesDigits_1 : decode cX6_takesDigits 1 = .ok (.getfield 22, 3) := by decide +kernel
theorem dX6_takesDigits_4 : decode cX6_takesDigits 4 = .ok (.aload_n 0, 1) := by decide +kernel
theorem dX6_takesDigits_5 : decode cX6_takesDigits 5 = .ok (.getfield 19, 3) := by decide +kernel
theorem dX6_takesDigits_8 : decode cX6_takesDigits 8 = .ok (.isub, 1) := by decide +kernel
theorem dX6_takesDigits_9 : decode cX6_takesDigits 9 = .ok (.iconst 4, 1) := by decide +kernel
theorem dX6_takesDigits_10 : decode cX6_takesDigits 10 = .ok (.if_icmp .le 5, 3) := by decide +kernel
theorem dX6_takesDigits_13 : decode cX6_takesDigits 13 = .ok (.iconst 0, 1) := by decide +kernel
theorem dX6_takesDigits_14 : decode cX6_takesDigits 14 = .ok (.ireturn, 1) := by decide +kernel
theorem dX6_takesDigits_15 : decode cX6_takesDigits 15 = .ok (.iconst 0, 1) := by decide +kernel
theorem dX6_takesDigits_16 : decode cX6_takesDigits 16 = .ok (.istore_n 2, 1) := by decide +kernel
theorem dX6_takesDigits_17 : decode cX6_takesDigits 17 = .ok (.aload_n 0, 1) := by decide +kernel
theorem dX6_takesDigits_18 : decode cX6_takesDigits 18 = .ok (.getfield 19, 3) := by decide +kernel
theorem dX6_takesDigits_21 : decode cX6_takesDigits 21 = .ok (.istore_n 3, 1) := by decide +kernel
theorem dX6_takesDigits_22 : decode cX6_takesDigits 22 = .ok (.iload_n 3, 1) := by decide +kernel
theorem dX6_takesDigits_23 : decode cX6_takesDigits 23 = .ok (.aload_n 0, 1) := by decide +kernel
theorem dX6_takesDigits_24 : decode cX6_takesDigits 24 = .ok (.getfield 22, 3) := by decide +kernel
theorem dX6_takesDigits_27 : decode cX6_takesDigits 27 = .ok (.if_icmp .ge 24, 3) := by decide +kernel
theorem dX6_takesDigits_30 : decode cX6_takesDigits 30 = .ok (.bipush 10, 2) := by decide +kernel
theorem dX6_takesDigits_32 : decode cX6_takesDigits 32 = .ok (.iload_n 2, 1) := by decide +kernel
theorem dX6_takesDigits_33 : decode cX6_takesDigits 33 = .ok (.imul, 1) := by decide +kernel
theorem dX6_takesDigits_34 : decode cX6_takesDigits 34 = .ok (.aload_n 0, 1) := by decide +kernel
theorem dX6_takesDigits_35 : decode cX6_takesDigits 35 = .ok (.getfield 9, 3) := by decide +kernel
theorem dX6_takesDigits_38 : decode cX6_takesDigits 38 = .ok (.iload_n 3, 1) := by decide +kernel
theorem dX6_takesDigits_39 : decode cX6_takesDigits 39 = .ok (.iaload, 1) := by decide +kernel
theorem dX6_takesDigits_40 : decode cX6_takesDigits 40 = .ok (.iadd, 1) := by decide +kernel
theorem dX6_takesDigits_41 : decode cX6_takesDigits 41 = .ok (.bipush 48, 2) := by decide +kernel
theorem dX6_takesDigits_43 : decode cX6_takesDigits 43 = .ok (.isub, 1) := by decide +kernel
theorem dX6_takesDigits_44 : decode cX6_takesDigits 44 = .ok (.istore_n 2, 1) := by decide +kernel
theorem dX6_takesDigits_45 : decode cX6_takesDigits 45 = .ok (.iinc 3 1, 3) := by decide +kernel
theorem dX6_takesDigits_48 : decode cX6_takesDigits 48 = .ok (.goto (-26), 3) := by decide +kernel
theorem dX6_takesDigits_51 : decode cX6_takesDigits 51 = .ok (.aload_n 1, 1) := by decide +kernel
theorem dX6_takesDigits_52 : decode cX6_takesDigits 52 = .ok (.iload_n 2, 1) := by decide +kernel
theorem dX6_takesDigits_53 : decode cX6_takesDigits 53 = .ok (.invokevirtual 130, 3) := by decide +kernel
theorem dX6_takesDigits_56 : decode cX6_takesDigits 56 = .ok (.aload_n 0, 1) := by decide +kernel
theorem dX6_takesDigits_57 : decode cX6_takesDigits 57 = .ok (.aload_n 1, 1) := by decide +kernel
theorem dX6_takesDigits_58 : decode cX6_takesDigits 58 = .ok (.invokevirtual 120, 3) := by decide +kernel
theorem dX6_takesDigits_61 : decode cX6_takesDigits 61 = .ok (.iconst 1, 1) := by decide +kernel
theorem dX6_takesDigits_62 : decode cX6_takesDigits 62 = .ok (.ireturn, 1) := by decide +kernel
theorem dX6_opens_0 : decode cX6_opens 0 = .ok (.iload_n 1, 1) := by decide +kernel
theorem dX6_opens_1 : decode cX6_opens 1 = .ok (.bipush 40, 2) := by decide +kernel
theorem dX6_opens_3 : decode cX6_opens 3 = .ok (.if_icmp .ne 25, 3) := by decide +kernel
theorem dX6_opens_6 : decode cX6_opens 6 = .ok (.aload_n 0, 1) := by decide +kernel
theorem dX6_opens_7 : decode cX6_opens 7 = .ok (.getfield 31, 3) := by decide +kernel
theorem dX6_opens_10 : decode cX6_opens 10 = .ok (.bipush 8, 2) := by decide +kernel
theorem dX6_opens_12 : decode cX6_opens 12 = .ok (.if_icmp .ge 16, 3) := by decide +kernel
theorem dX6_opens_15 : decode cX6_opens 15 = .ok (.aload_n 0, 1) := by decide +kernel
theorem dX6_opens_16 : decode cX6_opens 16 = .ok (.dup, 1) := by decide +kernel
theorem dX6_opens_17 : decode cX6_opens 17 = .ok (.getfield 31, 3) := by decide +kernel
theorem dX6_opens_20 : decode cX6_opens 20 = .ok (.iconst 1, 1) := by decide +kernel
theorem dX6_opens_21 : decode cX6_opens 21 = .ok (.iadd, 1) := by decide +kernel
theorem dX6_opens_22 : decode cX6_opens 22 = .ok (.putfield 31, 3) := by decide +kernel
theorem dX6_opens_25 : decode cX6_opens 25 = .ok (.goto 33, 3) := by decide +kernel
theorem dX6_opens_28 : decode cX6_opens 28 = .ok (.iload_n 1, 1) := by decide +kernel
theorem dX6_opens_29 : decode cX6_opens 29 = .ok (.bipush 33, 2) := by decide +kernel
theorem dX6_opens_31 : decode cX6_opens 31 = .ok (.if_icmp .ne 25, 3) := by decide +kernel
theorem dX6_opens_34 : decode cX6_opens 34 = .ok (.aload_n 0, 1) := by decide +kernel
theorem dX6_opens_35 : decode cX6_opens 35 = .ok (.getfield 34, 3) := by decide +kernel
theorem dX6_opens_38 : decode cX6_opens 38 = .ok (.bipush 8, 2) := by decide +kernel
theorem dX6_opens_40 : decode cX6_opens 40 = .ok (.if_icmp .ge 16, 3) := by decide +kernel
theorem dX6_opens_43 : decode cX6_opens 43 = .ok (.aload_n 0, 1) := by decide +kernel
theorem dX6_opens_44 : decode cX6_opens 44 = .ok (.dup, 1) := by decide +kernel
theorem dX6_opens_45 : decode cX6_opens 45 = .ok (.getfield 34, 3) := by decide +kernel
theorem dX6_opens_48 : decode cX6_opens 48 = .ok (.iconst 1, 1) := by decide +kernel
theorem dX6_opens_49 : decode cX6_opens 49 = .ok (.iadd, 1) := by decide +kernel
theorem dX6_opens_50 : decode cX6_opens 50 = .ok (.putfield 34, 3) := by decide +kernel
theorem dX6_opens_53 : decode cX6_opens 53 = .ok (.goto 5, 3) := by decide +kernel
theorem dX6_opens_56 : decode cX6_opens 56 = .ok (.iconst 0, 1) := by decide +kernel
theorem dX6_opens_57 : decode cX6_opens 57 = .ok (.ireturn, 1) := by decide +kernel
theorem dX6_opens_58 : decode cX6_opens 58 = .ok (.aload_n 0, 1) := by decide +kernel
theorem dX6_opens_59 : decode cX6_opens 59 = .ok (.iload_n 1, 1) := by decide +kernel
theorem dX6_opens_60 : decode cX6_opens 60 = .ok (.invokevirtual 133, 3) := by decide +kernel
theorem dX6_opens_63 : decode cX6_opens 63 = .ok (.iconst 1, 1) := by decide +kernel
theorem dX6_opens_64 : decode cX6_opens 64 = .ok (.ireturn, 1) := by decide +kernel
theorem dX6_pushes_0 : decode cX6_pushes 0 = .ok (.aload_n 0, 1) := by decide +kernel
theorem dX6_pushes_1 : decode cX6_pushes 1 = .ok (.getfield 28, 3) := by decide +kernel
theorem dX6_pushes_4 : decode cX6_pushes 4 = .ok (.aload_n 0, 1) := by decide +kernel
theorem dX6_pushes_5 : decode cX6_pushes 5 = .ok (.getfield 25, 3) := by decide +kernel
theorem dX6_pushes_8 : decode cX6_pushes 8 = .ok (.arraylength, 1) := by decide +kernel
theorem dX6_pushes_9 : decode cX6_pushes 9 = .ok (.if_icmp .ge 23, 3) := by decide +kernel
theorem dX6_pushes_12 : decode cX6_pushes 12 = .ok (.aload_n 0, 1) := by decide +kernel
theorem dX6_pushes_13 : decode cX6_pushes 13 = .ok (.getfield 25, 3) := by decide +kernel
theorem dX6_pushes_16 : decode cX6_pushes 16 = .ok (.aload_n 0, 1) := by decide +kernel
theorem dX6_pushes_17 : decode cX6_pushes 17 = .ok (.getfield 28, 3) := by decide +kernel
theorem dX6_pushes_20 : decode cX6_pushes 20 = .ok (.iload_n 1, 1) := by decide +kernel
theorem dX6_pushes_21 : decode cX6_pushes 21 = .ok (.iastore, 1) := by decide +kernel
theorem dX6_pushes_22 : decode cX6_pushes 22 = .ok (.aload_n 0, 1) := by decide +kernel
theorem dX6_pushes_23 : decode cX6_pushes 23 = .ok (.dup, 1) := by decide +kernel
theorem dX6_pushes_24 : decode cX6_pushes 24 = .ok (.getfield 28, 3) := by decide +kernel
theorem dX6_pushes_27 : decode cX6_pushes 27 = .ok (.iconst 1, 1) := by decide +kernel
theorem dX6_pushes_28 : decode cX6_pushes 28 = .ok (.iadd, 1) := by decide +kernel
theorem dX6_pushes_29 : decode cX6_pushes 29 = .ok (.putfield 28, 3) := by decide +kernel
theorem dX6_pushes_32 : decode cX6_pushes 32 = .ok (.return_, 1) := by decide +kernel
theorem dX6_endsPiece_0 : decode cX6_endsPiece 0 = .ok (.aload_n 0, 1) := by decide +kernel
theorem dX6_endsPiece_1 : decode cX6_endsPiece 1 = .ok (.iconst 0, 1) := by decide +kernel
theorem dX6_endsPiece_2 : decode cX6_endsPiece 2 = .ok (.putfield 37, 3) := by decide +kernel
theorem dX6_endsPiece_5 : decode cX6_endsPiece 5 = .ok (.aload_n 0, 1) := by decide +kernel
theorem dX6_endsPiece_6 : decode cX6_endsPiece 6 = .ok (.getfield 28, 3) := by decide +kernel
theorem dX6_endsPiece_9 : decode cX6_endsPiece 9 = .ok (.ifCond .le 48, 3) := by decide +kernel
theorem dX6_endsPiece_12 : decode cX6_endsPiece 12 = .ok (.aload_n 0, 1) := by decide +kernel
theorem dX6_endsPiece_13 : decode cX6_endsPiece 13 = .ok (.getfield 25, 3) := by decide +kernel
theorem dX6_endsPiece_16 : decode cX6_endsPiece 16 = .ok (.aload_n 0, 1) := by decide +kernel
theorem dX6_endsPiece_17 : decode cX6_endsPiece 17 = .ok (.getfield 28, 3) := by decide +kernel
theorem dX6_endsPiece_20 : decode cX6_endsPiece 20 = .ok (.iconst 1, 1) := by decide +kernel
theorem dX6_endsPiece_21 : decode cX6_endsPiece 21 = .ok (.isub, 1) := by decide +kernel
theorem dX6_endsPiece_22 : decode cX6_endsPiece 22 = .ok (.iaload, 1) := by decide +kernel
theorem dX6_endsPiece_23 : decode cX6_endsPiece 23 = .ok (.bipush 33, 2) := by decide +kernel
theorem dX6_endsPiece_25 : decode cX6_endsPiece 25 = .ok (.if_icmp .ne 32, 3) := by decide +kernel
theorem dX6_endsPiece_28 : decode cX6_endsPiece 28 = .ok (.aload_n 0, 1) := by decide +kernel
theorem dX6_endsPiece_29 : decode cX6_endsPiece 29 = .ok (.dup, 1) := by decide +kernel
theorem dX6_endsPiece_30 : decode cX6_endsPiece 30 = .ok (.getfield 28, 3) := by decide +kernel
theorem dX6_endsPiece_33 : decode cX6_endsPiece 33 = .ok (.iconst 1, 1) := by decide +kernel
theorem dX6_endsPiece_34 : decode cX6_endsPiece 34 = .ok (.isub, 1) := by decide +kernel
theorem dX6_endsPiece_35 : decode cX6_endsPiece 35 = .ok (.putfield 28, 3) := by decide +kernel
theorem dX6_endsPiece_38 : decode cX6_endsPiece 38 = .ok (.aload_n 0, 1) := by decide +kernel
theorem dX6_endsPiece_39 : decode cX6_endsPiece 39 = .ok (.dup, 1) := by decide +kernel
theorem dX6_endsPiece_40 : decode cX6_endsPiece 40 = .ok (.getfield 34, 3) := by decide +kernel
theorem dX6_endsPiece_43 : decode cX6_endsPiece 43 = .ok (.iconst 1, 1) := by decide +kernel
theorem dX6_endsPiece_44 : decode cX6_endsPiece 44 = .ok (.isub, 1) := by decide +kernel
theorem dX6_endsPiece_45 : decode cX6_endsPiece 45 = .ok (.putfield 34, 3) := by decide +kernel
theorem dX6_endsPiece_48 : decode cX6_endsPiece 48 = .ok (.aload_n 1, 1) := by decide +kernel
theorem dX6_endsPiece_49 : decode cX6_endsPiece 49 = .ok (.bipush 33, 2) := by decide +kernel
theorem dX6_endsPiece_51 : decode cX6_endsPiece 51 = .ok (.invokevirtual 136, 3) := by decide +kernel
theorem dX6_endsPiece_54 : decode cX6_endsPiece 54 = .ok (.goto (-49), 3) := by decide +kernel
theorem dX6_endsPiece_57 : decode cX6_endsPiece 57 = .ok (.return_, 1) := by decide +kernel
theorem dX6_takesSign_0 : decode cX6_takesSign 0 = .ok (.aload_n 0, 1) := by decide +kernel
theorem dX6_takesSign_1 : decode cX6_takesSign 1 = .ok (.getfield 9, 3) := by decide +kernel
theorem dX6_takesSign_4 : decode cX6_takesSign 4 = .ok (.aload_n 0, 1) := by decide +kernel
theorem dX6_takesSign_5 : decode cX6_takesSign 5 = .ok (.getfield 19, 3) := by decide +kernel
theorem dX6_takesSign_8 : decode cX6_takesSign 8 = .ok (.iaload, 1) := by decide +kernel
theorem dX6_takesSign_9 : decode cX6_takesSign 9 = .ok (.istore_n 2, 1) := by decide +kernel
theorem dX6_takesSign_10 : decode cX6_takesSign 10 = .ok (.iload_n 2, 1) := by decide +kernel
theorem dX6_takesSign_11 : decode cX6_takesSign 11 = .ok (.bipush 41, 2) := by decide +kernel
theorem dX6_takesSign_13 : decode cX6_takesSign 13 = .ok (.if_icmp .ne 9, 3) := by decide +kernel
theorem dX6_takesSign_16 : decode cX6_takesSign 16 = .ok (.aload_n 0, 1) := by decide +kernel
theorem dX6_takesSign_17 : decode cX6_takesSign 17 = .ok (.aload_n 1, 1) := by decide +kernel
theorem dX6_takesSign_18 : decode cX6_takesSign 18 = .ok (.invokevirtual 139, 3) := by decide +kernel
theorem dX6_takesSign_21 : decode cX6_takesSign 21 = .ok (.ireturn, 1) := by decide +kernel
theorem dX6_takesSign_22 : decode cX6_takesSign 22 = .ok (.iload_n 2, 1) := by decide +kernel
theorem dX6_takesSign_23 : decode cX6_takesSign 23 = .ok (.invokestatic 142, 3) := by decide +kernel
theorem dX6_takesSign_26 : decode cX6_takesSign 26 = .ok (.istore_n 3, 1) := by decide +kernel
theorem dX6_takesSign_27 : decode cX6_takesSign 27 = .ok (.iload_n 3, 1) := by decide +kernel
theorem dX6_takesSign_28 : decode cX6_takesSign 28 = .ok (.ifCond .ne 5, 3) := by decide +kernel
theorem dX6_takesSign_31 : decode cX6_takesSign 31 = .ok (.iconst 0, 1) := by decide +kernel
theorem dX6_takesSign_32 : decode cX6_takesSign 32 = .ok (.ireturn, 1) := by decide +kernel
theorem dX6_takesSign_33 : decode cX6_takesSign 33 = .ok (.aload_n 0, 1) := by decide +kernel
theorem dX6_takesSign_34 : decode cX6_takesSign 34 = .ok (.iload_n 3, 1) := by decide +kernel
theorem dX6_takesSign_35 : decode cX6_takesSign 35 = .ok (.iconst 3, 1) := by decide +kernel
theorem dX6_takesSign_36 : decode cX6_takesSign 36 = .ok (.if_icmp .ne 7, 3) := by decide +kernel
theorem dX6_takesSign_39 : decode cX6_takesSign 39 = .ok (.iconst 4, 1) := by decide +kernel
theorem dX6_takesSign_40 : decode cX6_takesSign 40 = .ok (.goto 4, 3) := by decide +kernel
theorem dX6_takesSign_43 : decode cX6_takesSign 43 = .ok (.iload_n 3, 1) := by decide +kernel
theorem dX6_takesSign_44 : decode cX6_takesSign 44 = .ok (.aload_n 1, 1) := by decide +kernel
theorem dX6_takesSign_45 : decode cX6_takesSign 45 = .ok (.invokevirtual 64, 3) := by decide +kernel
theorem dX6_takesSign_48 : decode cX6_takesSign 48 = .ok (.iload_n 3, 1) := by decide +kernel
theorem dX6_takesSign_49 : decode cX6_takesSign 49 = .ok (.iconst 3, 1) := by decide +kernel
theorem dX6_takesSign_50 : decode cX6_takesSign 50 = .ok (.if_icmp .ne 30, 3) := by decide +kernel
theorem dX6_takesSign_53 : decode cX6_takesSign 53 = .ok (.aload_n 0, 1) := by decide +kernel
theorem dX6_takesSign_54 : decode cX6_takesSign 54 = .ok (.getfield 28, 3) := by decide +kernel
theorem dX6_takesSign_57 : decode cX6_takesSign 57 = .ok (.ifCond .le 23, 3) := by decide +kernel
theorem dX6_takesSign_60 : decode cX6_takesSign 60 = .ok (.aload_n 0, 1) := by decide +kernel
theorem dX6_takesSign_61 : decode cX6_takesSign 61 = .ok (.getfield 25, 3) := by decide +kernel
theorem dX6_takesSign_64 : decode cX6_takesSign 64 = .ok (.aload_n 0, 1) := by decide +kernel
theorem dX6_takesSign_65 : decode cX6_takesSign 65 = .ok (.getfield 28, 3) := by decide +kernel
theorem dX6_takesSign_68 : decode cX6_takesSign 68 = .ok (.iconst 1, 1) := by decide +kernel
theorem dX6_takesSign_69 : decode cX6_takesSign 69 = .ok (.isub, 1) := by decide +kernel
theorem dX6_takesSign_70 : decode cX6_takesSign 70 = .ok (.iaload, 1) := by decide +kernel
theorem dX6_takesSign_71 : decode cX6_takesSign 71 = .ok (.invokestatic 142, 3) := by decide +kernel
theorem dX6_takesSign_74 : decode cX6_takesSign 74 = .ok (.iconst 3, 1) := by decide +kernel
theorem dX6_takesSign_75 : decode cX6_takesSign 75 = .ok (.if_icmp .ne 5, 3) := by decide +kernel
theorem dX6_takesSign_78 : decode cX6_takesSign 78 = .ok (.iconst 0, 1) := by decide +kernel
theorem dX6_takesSign_79 : decode cX6_takesSign 79 = .ok (.ireturn, 1) := by decide +kernel
theorem dX6_takesSign_80 : decode cX6_takesSign 80 = .ok (.aload_n 0, 1) := by decide +kernel
theorem dX6_takesSign_81 : decode cX6_takesSign 81 = .ok (.iload_n 2, 1) := by decide +kernel
theorem dX6_takesSign_82 : decode cX6_takesSign 82 = .ok (.invokevirtual 133, 3) := by decide +kernel
theorem dX6_takesSign_85 : decode cX6_takesSign 85 = .ok (.aload_n 0, 1) := by decide +kernel
theorem dX6_takesSign_86 : decode cX6_takesSign 86 = .ok (.iconst 1, 1) := by decide +kernel
theorem dX6_takesSign_87 : decode cX6_takesSign 87 = .ok (.putfield 37, 3) := by decide +kernel
theorem dX6_takesSign_90 : decode cX6_takesSign 90 = .ok (.iconst 1, 1) := by decide +kernel
theorem dX6_takesSign_91 : decode cX6_takesSign 91 = .ok (.ireturn, 1) := by decide +kernel
theorem dX6_takesClose_0 : decode cX6_takesClose 0 = .ok (.aload_n 0, 1) := by decide +kernel
theorem dX6_takesClose_1 : decode cX6_takesClose 1 = .ok (.getfield 31, 3) := by decide +kernel
theorem dX6_takesClose_4 : decode cX6_takesClose 4 = .ok (.ifCond .ne 5, 3) := by decide +kernel
theorem dX6_takesClose_7 : decode cX6_takesClose 7 = .ok (.iconst 0, 1) := by decide +kernel
theorem dX6_takesClose_8 : decode cX6_takesClose 8 = .ok (.ireturn, 1) := by decide +kernel
theorem dX6_takesClose_9 : decode cX6_takesClose 9 = .ok (.aload_n 0, 1) := by decide +kernel
theorem dX6_takesClose_10 : decode cX6_takesClose 10 = .ok (.iconst 1, 1) := by decide +kernel
theorem dX6_takesClose_11 : decode cX6_takesClose 11 = .ok (.aload_n 1, 1) := by decide +kernel
theorem dX6_takesClose_12 : decode cX6_takesClose 12 = .ok (.invokevirtual 64, 3) := by decide +kernel
theorem dX6_takesClose_15 : decode cX6_takesClose 15 = .ok (.aload_n 0, 1) := by decide +kernel
theorem dX6_takesClose_16 : decode cX6_takesClose 16 = .ok (.getfield 28, 3) := by decide +kernel
theorem dX6_takesClose_19 : decode cX6_takesClose 19 = .ok (.ifCond .le 13, 3) := by decide +kernel
theorem dX6_takesClose_22 : decode cX6_takesClose 22 = .ok (.aload_n 0, 1) := by decide +kernel
theorem dX6_takesClose_23 : decode cX6_takesClose 23 = .ok (.dup, 1) := by decide +kernel
theorem dX6_takesClose_24 : decode cX6_takesClose 24 = .ok (.getfield 28, 3) := by decide +kernel
theorem dX6_takesClose_27 : decode cX6_takesClose 27 = .ok (.iconst 1, 1) := by decide +kernel
theorem dX6_takesClose_28 : decode cX6_takesClose 28 = .ok (.isub, 1) := by decide +kernel
theorem dX6_takesClose_29 : decode cX6_takesClose 29 = .ok (.putfield 28, 3) := by decide +kernel
theorem dX6_takesClose_32 : decode cX6_takesClose 32 = .ok (.aload_n 0, 1) := by decide +kernel
theorem dX6_takesClose_33 : decode cX6_takesClose 33 = .ok (.dup, 1) := by decide +kernel
theorem dX6_takesClose_34 : decode cX6_takesClose 34 = .ok (.getfield 31, 3) := by decide +kernel
theorem dX6_takesClose_37 : decode cX6_takesClose 37 = .ok (.iconst 1, 1) := by decide +kernel
theorem dX6_takesClose_38 : decode cX6_takesClose 38 = .ok (.isub, 1) := by decide +kernel
theorem dX6_takesClose_39 : decode cX6_takesClose 39 = .ok (.putfield 31, 3) := by decide +kernel
theorem dX6_takesClose_42 : decode cX6_takesClose 42 = .ok (.aload_n 0, 1) := by decide +kernel
theorem dX6_takesClose_43 : decode cX6_takesClose 43 = .ok (.aload_n 1, 1) := by decide +kernel
theorem dX6_takesClose_44 : decode cX6_takesClose 44 = .ok (.invokevirtual 120, 3) := by decide +kernel
theorem dX6_takesClose_47 : decode cX6_takesClose 47 = .ok (.iconst 1, 1) := by decide +kernel
theorem dX6_takesClose_48 : decode cX6_takesClose 48 = .ok (.ireturn, 1) := by decide +kernel
theorem dX6_closesDownTo_0 : decode cX6_closesDownTo 0 = .ok (.aload_n 0, 1) := by decide +kernel
theorem dX6_closesDownTo_1 : decode cX6_closesDownTo 1 = .ok (.getfield 28, 3) := by decide +kernel
theorem dX6_closesDownTo_4 : decode cX6_closesDownTo 4 = .ok (.ifCond .le 47, 3) := by decide +kernel
theorem dX6_closesDownTo_7 : decode cX6_closesDownTo 7 = .ok (.aload_n 0, 1) := by decide +kernel
theorem dX6_closesDownTo_8 : decode cX6_closesDownTo 8 = .ok (.getfield 25, 3) := by decide +kernel
theorem dX6_closesDownTo_11 : decode cX6_closesDownTo 11 = .ok (.aload_n 0, 1) := by decide +kernel
theorem dX6_closesDownTo_12 : decode cX6_closesDownTo 12 = .ok (.getfield 28, 3) := by decide +kernel
theorem dX6_closesDownTo_15 : decode cX6_closesDownTo 15 = .ok (.iconst 1, 1) := by decide +kernel
theorem dX6_closesDownTo_16 : decode cX6_closesDownTo 16 = .ok (.isub, 1) := by decide +kernel
theorem dX6_closesDownTo_17 : decode cX6_closesDownTo 17 = .ok (.iaload, 1) := by decide +kernel
theorem dX6_closesDownTo_18 : decode cX6_closesDownTo 18 = .ok (.invokestatic 142, 3) := by decide +kernel
theorem dX6_closesDownTo_21 : decode cX6_closesDownTo 21 = .ok (.iload_n 1, 1) := by decide +kernel
theorem dX6_closesDownTo_22 : decode cX6_closesDownTo 22 = .ok (.if_icmp .lt 29, 3) := by decide +kernel
theorem dX6_closesDownTo_25 : decode cX6_closesDownTo 25 = .ok (.aload_n 0, 1) := by decide +kernel
theorem dX6_closesDownTo_26 : decode cX6_closesDownTo 26 = .ok (.dup, 1) := by decide +kernel
theorem dX6_closesDownTo_27 : decode cX6_closesDownTo 27 = .ok (.getfield 28, 3) := by decide +kernel
theorem dX6_closesDownTo_30 : decode cX6_closesDownTo 30 = .ok (.iconst 1, 1) := by decide +kernel
theorem dX6_closesDownTo_31 : decode cX6_closesDownTo 31 = .ok (.isub, 1) := by decide +kernel
theorem dX6_closesDownTo_32 : decode cX6_closesDownTo 32 = .ok (.putfield 28, 3) := by decide +kernel
theorem dX6_closesDownTo_35 : decode cX6_closesDownTo 35 = .ok (.aload_n 2, 1) := by decide +kernel
theorem dX6_closesDownTo_36 : decode cX6_closesDownTo 36 = .ok (.aload_n 0, 1) := by decide +kernel
theorem dX6_closesDownTo_37 : decode cX6_closesDownTo 37 = .ok (.getfield 25, 3) := by decide +kernel
theorem dX6_closesDownTo_40 : decode cX6_closesDownTo 40 = .ok (.aload_n 0, 1) := by decide +kernel
theorem dX6_closesDownTo_41 : decode cX6_closesDownTo 41 = .ok (.getfield 28, 3) := by decide +kernel
theorem dX6_closesDownTo_44 : decode cX6_closesDownTo 44 = .ok (.iaload, 1) := by decide +kernel
theorem dX6_closesDownTo_45 : decode cX6_closesDownTo 45 = .ok (.invokevirtual 136, 3) := by decide +kernel
theorem dX6_closesDownTo_48 : decode cX6_closesDownTo 48 = .ok (.goto (-48), 3) := by decide +kernel
theorem dX6_closesDownTo_51 : decode cX6_closesDownTo 51 = .ok (.return_, 1) := by decide +kernel
theorem dX6_levelOf_0 : decode cX6_levelOf 0 = .ok (.iload_n 0, 1) := by decide +kernel
theorem dX6_levelOf_1 : decode cX6_levelOf 1 = .ok (.lookupswitch 93 #[(38, 85), (42, 91), (43, 89), (45, 89), (47, 91), (60, 87), (61, 87), (62, 87), (124, 83)], 83) := by decide +kernel
theorem dX6_levelOf_84 : decode cX6_levelOf 84 = .ok (.iconst 1, 1) := by decide +kernel
theorem dX6_levelOf_85 : decode cX6_levelOf 85 = .ok (.ireturn, 1) := by decide +kernel
theorem dX6_levelOf_86 : decode cX6_levelOf 86 = .ok (.iconst 2, 1) := by decide +kernel
theorem dX6_levelOf_87 : decode cX6_levelOf 87 = .ok (.ireturn, 1) := by decide +kernel
theorem dX6_levelOf_88 : decode cX6_levelOf 88 = .ok (.iconst 3, 1) := by decide +kernel
theorem dX6_levelOf_89 : decode cX6_levelOf 89 = .ok (.ireturn, 1) := by decide +kernel
theorem dX6_levelOf_90 : decode cX6_levelOf 90 = .ok (.iconst 4, 1) := by decide +kernel
theorem dX6_levelOf_91 : decode cX6_levelOf 91 = .ok (.ireturn, 1) := by decide +kernel
theorem dX6_levelOf_92 : decode cX6_levelOf 92 = .ok (.iconst 5, 1) := by decide +kernel
theorem dX6_levelOf_93 : decode cX6_levelOf 93 = .ok (.ireturn, 1) := by decide +kernel
theorem dX6_levelOf_94 : decode cX6_levelOf 94 = .ok (.iconst 0, 1) := by decide +kernel
theorem dX6_levelOf_95 : decode cX6_levelOf 95 = .ok (.ireturn, 1) := by decide +kernel
theorem dX7_init_0 : decode cX7_init 0 = .ok (.aload_n 0, 1) := by decide +kernel
theorem dX7_init_1 : decode cX7_init 1 = .ok (.invokespecial 3, 3) := by decide +kernel
theorem dX7_init_4 : decode cX7_init 4 = .ok (.aload_n 0, 1) := by decide +kernel
theorem dX7_init_5 : decode cX7_init 5 = .ok (.iconst 0, 1) := by decide +kernel
theorem dX7_init_6 : decode cX7_init 6 = .ok (.putfield 9, 3) := by decide +kernel
theorem dX7_init_9 : decode cX7_init 9 = .ok (.aload_n 0, 1) := by decide +kernel
theorem dX7_init_10 : decode cX7_init 10 = .ok (.iconst 0, 1) := by decide +kernel
theorem dX7_init_11 : decode cX7_init 11 = .ok (.putfield 15, 3) := by decide +kernel
theorem dX7_init_14 : decode cX7_init 14 = .ok (.aload_n 0, 1) := by decide +kernel
theorem dX7_init_15 : decode cX7_init 15 = .ok (.iconst 1, 1) := by decide +kernel
theorem dX7_init_16 : decode cX7_init 16 = .ok (.putfield 18, 3) := by decide +kernel
theorem dX7_init_19 : decode cX7_init 19 = .ok (.aload_n 0, 1) := by decide +kernel
theorem dX7_init_20 : decode cX7_init 20 = .ok (.iconst 0, 1) := by decide +kernel
theorem dX7_init_21 : decode cX7_init 21 = .ok (.putfield 21, 3) := by decide +kernel
theorem dX7_init_24 : decode cX7_init 24 = .ok (.aload_n 0, 1) := by decide +kernel
theorem dX7_init_25 : decode cX7_init 25 = .ok (.iconst 0, 1) := by decide +kernel
theorem dX7_init_26 : decode cX7_init 26 = .ok (.putfield 24, 3) := by decide +kernel
theorem dX7_init_29 : decode cX7_init 29 = .ok (.return_, 1) := by decide +kernel
theorem dX7_canBe_0 : decode cX7_canBe 0 = .ok (.iload_n 0, 1) := by decide +kernel
theorem dX7_canBe_1 : decode cX7_canBe 1 = .ok (.tableswitch 63 1 4 #[31, 39, 47, 56], 31) := by decide +kernel
theorem dX7_canBe_32 : decode cX7_canBe 32 = .ok (.iload_n 1, 1) := by decide +kernel
theorem dX7_canBe_33 : decode cX7_canBe 33 = .ok (.iconst 0, 1) := by decide +kernel
theorem dX7_canBe_34 : decode cX7_canBe 34 = .ok (.bipush 11, 2) := by decide +kernel
theorem dX7_canBe_36 : decode cX7_canBe 36 = .ok (.invokestatic 27, 3) := by decide +kernel
theorem dX7_canBe_39 : decode cX7_canBe 39 = .ok (.ireturn, 1) := by decide +kernel
theorem dX7_canBe_40 : decode cX7_canBe 40 = .ok (.iload_n 1, 1) := by decide +kernel
theorem dX7_canBe_41 : decode cX7_canBe 41 = .ok (.iconst 1, 1) := by decide +kernel
theorem dX7_canBe_42 : decode cX7_canBe 42 = .ok (.bipush 9, 2) := by decide +kernel
theorem dX7_canBe_44 : decode cX7_canBe 44 = .ok (.invokestatic 27, 3) := by decide +kernel
theorem dX7_canBe_47 : decode cX7_canBe 47 = .ok (.ireturn, 1) := by decide +kernel
theorem dX7_canBe_48 : decode cX7_canBe 48 = .ok (.iload_n 1, 1) := by decide +kernel
theorem dX7_canBe_49 : decode cX7_canBe 49 = .ok (.iconst 0, 1) := by decide +kernel
theorem dX7_canBe_50 : decode cX7_canBe 50 = .ok (.sipush 999, 3) := by decide +kernel
theorem dX7_canBe_53 : decode cX7_canBe 53 = .ok (.invokestatic 27, 3) := by decide +kernel
theorem dX7_canBe_56 : decode cX7_canBe 56 = .ok (.ireturn, 1) := by decide +kernel
theorem dX7_canBe_57 : decode cX7_canBe 57 = .ok (.iload_n 1, 1) := by decide +kernel
theorem dX7_canBe_58 : decode cX7_canBe 58 = .ok (.iconst 0, 1) := by decide +kernel
theorem dX7_canBe_59 : decode cX7_canBe 59 = .ok (.iconst 1, 1) := by decide +kernel
theorem dX7_canBe_60 : decode cX7_canBe 60 = .ok (.invokestatic 27, 3) := by decide +kernel
theorem dX7_canBe_63 : decode cX7_canBe 63 = .ok (.ireturn, 1) := by decide +kernel
theorem dX7_canBe_64 : decode cX7_canBe 64 = .ok (.iconst 0, 1) := by decide +kernel
theorem dX7_canBe_65 : decode cX7_canBe 65 = .ok (.ireturn, 1) := by decide +kernel
theorem dX7_isOf_0 : decode cX7_isOf 0 = .ok (.aload_n 0, 1) := by decide +kernel
theorem dX7_isOf_1 : decode cX7_isOf 1 = .ok (.getfield 9, 3) := by decide +kernel
theorem dX7_isOf_4 : decode cX7_isOf 4 = .ok (.istore_n 2, 1) := by decide +kernel
theorem dX7_isOf_5 : decode cX7_isOf 5 = .ok (.iconst 0, 1) := by decide +kernel
theorem dX7_isOf_6 : decode cX7_isOf 6 = .ok (.istore_n 3, 1) := by decide +kernel
theorem dX7_isOf_7 : decode cX7_isOf 7 = .ok (.iload_n 3, 1) := by decide +kernel
theorem dX7_isOf_8 : decode cX7_isOf 8 = .ok (.getstatic 31, 3) := by decide +kernel
theorem dX7_isOf_11 : decode cX7_isOf 11 = .ok (.arraylength, 1) := by decide +kernel
theorem dX7_isOf_12 : decode cX7_isOf 12 = .ok (.if_icmp .ge 29, 3) := by decide +kernel
theorem dX7_isOf_15 : decode cX7_isOf 15 = .ok (.iload_n 2, 1) := by decide +kernel
theorem dX7_isOf_16 : decode cX7_isOf 16 = .ok (.invokestatic 35, 3) := by decide +kernel
theorem dX7_isOf_19 : decode cX7_isOf 19 = .ok (.ifCond .eq 22, 3) := by decide +kernel
theorem dX7_isOf_22 : decode cX7_isOf 22 = .ok (.iload_n 2, 1) := by decide +kernel
theorem dX7_isOf_23 : decode cX7_isOf 23 = .ok (.iload_n 1, 1) := by decide +kernel
theorem dX7_isOf_24 : decode cX7_isOf 24 = .ok (.if_icmp .ne 5, 3) := by decide +kernel
theorem dX7_isOf_27 : decode cX7_isOf 27 = .ok (.iconst 1, 1) := by decide +kernel
theorem dX7_isOf_28 : decode cX7_isOf 28 = .ok (.ireturn, 1) := by decide +kernel
theorem dX7_isOf_29 : decode cX7_isOf 29 = .ok (.getstatic 31, 3) := by decide +kernel
theorem dX7_isOf_32 : decode cX7_isOf 32 = .ok (.iload_n 2, 1) := by decide +kernel
theorem dX7_isOf_33 : decode cX7_isOf 33 = .ok (.iaload, 1) := by decide +kernel
theorem dX7_isOf_34 : decode cX7_isOf 34 = .ok (.istore_n 2, 1) := by decide +kernel
theorem dX7_isOf_35 : decode cX7_isOf 35 = .ok (.iinc 3 1, 3) := by decide +kernel
theorem dX7_isOf_38 : decode cX7_isOf 38 = .ok (.goto (-31), 3) := by decide +kernel
theorem dX7_isOf_41 : decode cX7_isOf 41 = .ok (.iconst 0, 1) := by decide +kernel
theorem dX7_isOf_42 : decode cX7_isOf 42 = .ok (.ireturn, 1) := by decide +kernel
theorem dX7_sight_0 : decode cX7_sight 0 = .ok (.aload_n 0, 1) := by decide +kernel
theorem dX7_sight_1 : decode cX7_sight 1 = .ok (.getfield 24, 3) := by decide +kernel
theorem dX7_sight_4 : decode cX7_sight 4 = .ok (.ifCond .ne 5, 3) := by decide +kernel
theorem dX7_sight_7 : decode cX7_sight 7 = .ok (.iconst 0, 1) := by decide +kernel
theorem dX7_sight_8 : decode cX7_sight 8 = .ok (.ireturn, 1) := by decide +kernel
theorem dX7_sight_9 : decode cX7_sight 9 = .ok (.aload_n 0, 1) := by decide +kernel
theorem dX7_sight_10 : decode cX7_sight 10 = .ok (.getfield 9, 3) := by decide +kernel
theorem dX7_sight_13 : decode cX7_sight 13 = .ok (.tableswitch 94 1 5 #[35, 53, 43, 58, 76], 35) := by decide +kernel
theorem dX7_sight_48 : decode cX7_sight 48 = .ok (.aload_n 0, 1) := by decide +kernel
theorem dX7_sight_49 : decode cX7_sight 49 = .ok (.iload_n 1, 1) := by decide +kernel
theorem dX7_sight_50 : decode cX7_sight 50 = .ok (.invokevirtual 39, 3) := by decide +kernel
theorem dX7_sight_53 : decode cX7_sight 53 = .ok (.iconst 2, 1) := by decide +kernel
theorem dX7_sight_54 : decode cX7_sight 54 = .ok (.idiv, 1) := by decide +kernel
theorem dX7_sight_55 : decode cX7_sight 55 = .ok (.ireturn, 1) := by decide +kernel
theorem dX7_sight_56 : decode cX7_sight 56 = .ok (.aload_n 0, 1) := by decide +kernel
theorem dX7_sight_57 : decode cX7_sight 57 = .ok (.iload_n 1, 1) := by decide +kernel
theorem dX7_sight_58 : decode cX7_sight 58 = .ok (.invokevirtual 39, 3) := by decide +kernel
theorem dX7_sight_61 : decode cX7_sight 61 = .ok (.iconst 2, 1) := by decide +kernel
theorem dX7_sight_62 : decode cX7_sight 62 = .ok (.idiv, 1) := by decide +kernel
theorem dX7_sight_63 : decode cX7_sight 63 = .ok (.iconst 1, 1) := by decide +kernel
theorem dX7_sight_64 : decode cX7_sight 64 = .ok (.iadd, 1) := by decide +kernel
theorem dX7_sight_65 : decode cX7_sight 65 = .ok (.ireturn, 1) := by decide +kernel
theorem dX7_sight_66 : decode cX7_sight 66 = .ok (.aload_n 0, 1) := by decide +kernel
theorem dX7_sight_67 : decode cX7_sight 67 = .ok (.getfield 18, 3) := by decide +kernel
theorem dX7_sight_70 : decode cX7_sight 70 = .ok (.ireturn, 1) := by decide +kernel
theorem dX7_sight_71 : decode cX7_sight 71 = .ok (.iload_n 2, 1) := by decide +kernel
theorem dX7_sight_72 : decode cX7_sight 72 = .ok (.ifCond .le 12, 3) := by decide +kernel
theorem dX7_sight_75 : decode cX7_sight 75 = .ok (.aload_n 0, 1) := by decide +kernel
theorem dX7_sight_76 : decode cX7_sight 76 = .ok (.getfield 18, 3) := by decide +kernel
theorem dX7_sight_79 : decode cX7_sight 79 = .ok (.iconst 3, 1) := by decide +kernel
theorem dX7_sight_80 : decode cX7_sight 80 = .ok (.iadd, 1) := by decide +kernel
theorem dX7_sight_81 : decode cX7_sight 81 = .ok (.goto 7, 3) := by decide +kernel
theorem dX7_sight_84 : decode cX7_sight 84 = .ok (.aload_n 0, 1) := by decide +kernel
theorem dX7_sight_85 : decode cX7_sight 85 = .ok (.getfield 18, 3) := by decide +kernel
theorem dX7_sight_88 : decode cX7_sight 88 = .ok (.ireturn, 1) := by decide +kernel
theorem dX7_sight_89 : decode cX7_sight 89 = .ok (.aload_n 0, 1) := by decide +kernel
theorem dX7_sight_90 : decode cX7_sight 90 = .ok (.getfield 21, 3) := by decide +kernel
theorem dX7_sight_93 : decode cX7_sight 93 = .ok (.iconst 5, 1) := by decide +kernel
theorem dX7_sight_94 : decode cX7_sight 94 = .ok (.if_icmp .le 7, 3) := by decide +kernel
theorem dX7_sight_97 : decode cX7_sight 97 = .ok (.iconst 0, 1) := by decide +kernel
theorem dX7_sight_98 : decode cX7_sight 98 = .ok (.goto 8, 3) := by decide +kernel
theorem dX7_sight_101 : decode cX7_sight 101 = .ok (.aload_n 0, 1) := by decide +kernel
theorem dX7_sight_102 : decode cX7_sight 102 = .ok (.iload_n 1, 1) := by decide +kernel
theorem dX7_sight_103 : decode cX7_sight 103 = .ok (.invokevirtual 39, 3) := by decide +kernel
theorem dX7_sight_106 : decode cX7_sight 106 = .ok (.ireturn, 1) := by decide +kernel
theorem dX7_sight_107 : decode cX7_sight 107 = .ok (.aload_n 0, 1) := by decide +kernel
theorem dX7_sight_108 : decode cX7_sight 108 = .ok (.iload_n 1, 1) := by decide +kernel
theorem dX7_sight_109 : decode cX7_sight 109 = .ok (.invokevirtual 39, 3) := by decide +kernel
theorem dX7_sight_112 : decode cX7_sight 112 = .ok (.ireturn, 1) := by decide +kernel
theorem dX7_plainSight_0 : decode cX7_plainSight 0 = .ok (.iconst 0, 1) := by decide +kernel
theorem dX7_plainSight_1 : decode cX7_plainSight 1 = .ok (.aload_n 0, 1) := by decide +kernel
theorem dX7_plainSight_2 : decode cX7_plainSight 2 = .ok (.getfield 18, 3) := by decide +kernel
theorem dX7_plainSight_5 : decode cX7_plainSight 5 = .ok (.aload_n 0, 1) := by decide +kernel
theorem dX7_plainSight_6 : decode cX7_plainSight 6 = .ok (.getfield 21, 3) := by decide +kernel
theorem dX7_plainSight_9 : decode cX7_plainSight 9 = .ok (.bipush 10, 2) := by decide +kernel
theorem dX7_plainSight_11 : decode cX7_plainSight 11 = .ok (.idiv, 1) := by decide +kernel
theorem dX7_plainSight_12 : decode cX7_plainSight 12 = .ok (.isub, 1) := by decide +kernel
theorem dX7_plainSight_13 : decode cX7_plainSight 13 = .ok (.invokestatic 43, 3) := by decide +kernel
theorem dX7_plainSight_16 : decode cX7_plainSight 16 = .ok (.iload_n 1, 1) := by decide +kernel
theorem dX7_plainSight_17 : decode cX7_plainSight 17 = .ok (.iconst 4, 1) := by decide +kernel
theorem dX7_plainSight_18 : decode cX7_plainSight 18 = .ok (.idiv, 1) := by decide +kernel
theorem dX7_plainSight_19 : decode cX7_plainSight 19 = .ok (.iadd, 1) := by decide +kernel
theorem dX7_plainSight_20 : decode cX7_plainSight 20 = .ok (.ireturn, 1) := by decide +kernel
theorem dX7_worth_0 : decode cX7_worth 0 = .ok (.aload_n 0, 1) := by decide +kernel
theorem dX7_worth_1 : decode cX7_worth 1 = .ok (.getfield 9, 3) := by decide +kernel
theorem dX7_worth_4 : decode cX7_worth 4 = .ok (.tableswitch 73 1 5 #[36, 52, 43, 60, 71], 36) := by decide +kernel
theorem dX7_worth_40 : decode cX7_worth 40 = .ok (.aload_n 0, 1) := by decide +kernel
theorem dX7_worth_41 : decode cX7_worth 41 = .ok (.getfield 18, 3) := by decide +kernel
theorem dX7_worth_44 : decode cX7_worth 44 = .ok (.iconst 4, 1) := by decide +kernel
theorem dX7_worth_45 : decode cX7_worth 45 = .ok (.iadd, 1) := by decide +kernel
theorem dX7_worth_46 : decode cX7_worth 46 = .ok (.ireturn, 1) := by decide +kernel
theorem dX7_worth_47 : decode cX7_worth 47 = .ok (.iconst 2, 1) := by decide +kernel
theorem dX7_worth_48 : decode cX7_worth 48 = .ok (.aload_n 0, 1) := by decide +kernel
theorem dX7_worth_49 : decode cX7_worth 49 = .ok (.getfield 18, 3) := by decide +kernel
theorem dX7_worth_52 : decode cX7_worth 52 = .ok (.iconst 4, 1) := by decide +kernel
theorem dX7_worth_53 : decode cX7_worth 53 = .ok (.iadd, 1) := by decide +kernel
theorem dX7_worth_54 : decode cX7_worth 54 = .ok (.imul, 1) := by decide +kernel
theorem dX7_worth_55 : decode cX7_worth 55 = .ok (.ireturn, 1) := by decide +kernel
theorem dX7_worth_56 : decode cX7_worth 56 = .ok (.bipush 20, 2) := by decide +kernel
theorem dX7_worth_58 : decode cX7_worth 58 = .ok (.aload_n 0, 1) := by decide +kernel
theorem dX7_worth_59 : decode cX7_worth 59 = .ok (.getfield 18, 3) := by decide +kernel
theorem dX7_worth_62 : decode cX7_worth 62 = .ok (.isub, 1) := by decide +kernel
theorem dX7_worth_63 : decode cX7_worth 63 = .ok (.ireturn, 1) := by decide +kernel
theorem dX7_worth_64 : decode cX7_worth 64 = .ok (.bipush 20, 2) := by decide +kernel
theorem dX7_worth_66 : decode cX7_worth 66 = .ok (.aload_n 0, 1) := by decide +kernel
theorem dX7_worth_67 : decode cX7_worth 67 = .ok (.getfield 18, 3) := by decide +kernel
theorem dX7_worth_70 : decode cX7_worth 70 = .ok (.isub, 1) := by decide +kernel
theorem dX7_worth_71 : decode cX7_worth 71 = .ok (.bipush 9, 2) := by decide +kernel
theorem dX7_worth_73 : decode cX7_worth 73 = .ok (.iadd, 1) := by decide +kernel
theorem dX7_worth_74 : decode cX7_worth 74 = .ok (.ireturn, 1) := by decide +kernel
theorem dX7_worth_75 : decode cX7_worth 75 = .ok (.iconst 2, 1) := by decide +kernel
theorem dX7_worth_76 : decode cX7_worth 76 = .ok (.ireturn, 1) := by decide +kernel
theorem dX7_worth_77 : decode cX7_worth 77 = .ok (.aload_n 0, 1) := by decide +kernel
theorem dX7_worth_78 : decode cX7_worth 78 = .ok (.getfield 18, 3) := by decide +kernel
theorem dX7_worth_81 : decode cX7_worth 81 = .ok (.ireturn, 1) := by decide +kernel
theorem dX7_takeFrom_0 : decode cX7_takeFrom 0 = .ok (.aload_n 0, 1) := by decide +kernel
theorem dX7_takeFrom_1 : decode cX7_takeFrom 1 = .ok (.aload_n 1, 1) := by decide +kernel
theorem dX7_takeFrom_2 : decode cX7_takeFrom 2 = .ok (.getfield 9, 3) := by decide +kernel
theorem dX7_takeFrom_5 : decode cX7_takeFrom 5 = .ok (.putfield 9, 3) := by decide +kernel
theorem dX7_takeFrom_8 : decode cX7_takeFrom 8 = .ok (.aload_n 0, 1) := by decide +kernel
theorem dX7_takeFrom_9 : decode cX7_takeFrom 9 = .ok (.aload_n 1, 1) := by decide +kernel
theorem dX7_takeFrom_10 : decode cX7_takeFrom 10 = .ok (.getfield 15, 3) := by decide +kernel
theorem dX7_takeFrom_13 : decode cX7_takeFrom 13 = .ok (.putfield 15, 3) := by decide +kernel
theorem dX7_takeFrom_16 : decode cX7_takeFrom 16 = .ok (.aload_n 0, 1) := by decide +kernel
theorem dX7_takeFrom_17 : decode cX7_takeFrom 17 = .ok (.aload_n 1, 1) := by decide +kernel
theorem dX7_takeFrom_18 : decode cX7_takeFrom 18 = .ok (.getfield 18, 3) := by decide +kernel
theorem dX7_takeFrom_21 : decode cX7_takeFrom 21 = .ok (.putfield 18, 3) := by decide +kernel
theorem dX7_takeFrom_24 : decode cX7_takeFrom 24 = .ok (.aload_n 0, 1) := by decide +kernel
theorem dX7_takeFrom_25 : decode cX7_takeFrom 25 = .ok (.aload_n 1, 1) := by decide +kernel
theorem dX7_takeFrom_26 : decode cX7_takeFrom 26 = .ok (.getfield 21, 3) := by decide +kernel
theorem dX7_takeFrom_29 : decode cX7_takeFrom 29 = .ok (.putfield 21, 3) := by decide +kernel
theorem dX7_takeFrom_32 : decode cX7_takeFrom 32 = .ok (.aload_n 0, 1) := by decide +kernel
theorem dX7_takeFrom_33 : decode cX7_takeFrom 33 = .ok (.aload_n 1, 1) := by decide +kernel
theorem dX7_takeFrom_34 : decode cX7_takeFrom 34 = .ok (.getfield 24, 3) := by decide +kernel
theorem dX7_takeFrom_37 : decode cX7_takeFrom 37 = .ok (.putfield 24, 3) := by decide +kernel
theorem dX7_takeFrom_40 : decode cX7_takeFrom 40 = .ok (.return_, 1) := by decide +kernel
theorem dJ0_length_8abf5_0 : decode cJ0_length_8abf5 0 = .ok (.aload_n 0, 1) := by decide +kernel
theorem dJ0_length_8abf5_1 : decode cJ0_length_8abf5 1 = .ok (.getfield 9, 3) := by decide +kernel
theorem dJ0_length_8abf5_4 : decode cJ0_length_8abf5 4 = .ok (.arraylength, 1) := by decide +kernel
theorem dJ0_length_8abf5_5 : decode cJ0_length_8abf5 5 = .ok (.aload_n 0, 1) := by decide +kernel
theorem dJ0_length_8abf5_6 : decode cJ0_length_8abf5 6 = .ok (.invokevirtual 335, 3) := by decide +kernel
theorem dJ0_length_8abf5_9 : decode cJ0_length_8abf5 9 = .ok (.ishr, 1) := by decide +kernel
theorem dJ0_length_8abf5_10 : decode cJ0_length_8abf5 10 = .ok (.ireturn, 1) := by decide +kernel
theorem dJ0_charAt_5068e_0 : decode cJ0_charAt_5068e 0 = .ok (.aload_n 0, 1) := by decide +kernel
theorem dJ0_charAt_5068e_1 : decode cJ0_charAt_5068e 1 = .ok (.invokevirtual 492, 3) := by decide +kernel
theorem dJ0_charAt_5068e_4 : decode cJ0_charAt_5068e 4 = .ok (.ifCond .eq 12, 3) := by decide +kernel
theorem dJ0_charAt_5068e_7 : decode cJ0_charAt_5068e 7 = .ok (.aload_n 0, 1) := by decide +kernel
theorem dJ0_charAt_5068e_8 : decode cJ0_charAt_5068e 8 = .ok (.getfield 9, 3) := by decide +kernel
theorem dJ0_charAt_5068e_11 : decode cJ0_charAt_5068e 11 = .ok (.iload_n 1, 1) := by decide +kernel
theorem dJ0_charAt_5068e_12 : decode cJ0_charAt_5068e 12 = .ok (.invokestatic 495, 3) := by decide +kernel
theorem dJ0_charAt_5068e_15 : decode cJ0_charAt_5068e 15 = .ok (.ireturn, 1) := by decide +kernel
theorem dJ0_charAt_5068e_16 : decode cJ0_charAt_5068e 16 = .ok (.aload_n 0, 1) := by decide +kernel
theorem dJ0_charAt_5068e_17 : decode cJ0_charAt_5068e 17 = .ok (.getfield 9, 3) := by decide +kernel
theorem dJ0_charAt_5068e_20 : decode cJ0_charAt_5068e 20 = .ok (.iload_n 1, 1) := by decide +kernel
theorem dJ0_charAt_5068e_21 : decode cJ0_charAt_5068e 21 = .ok (.invokestatic 498, 3) := by decide +kernel
theorem dJ0_charAt_5068e_24 : decode cJ0_charAt_5068e 24 = .ok (.ireturn, 1) := by decide +kernel
theorem dJ0_indexOf_0f7a4_0 : decode cJ0_indexOf_0f7a4 0 = .ok (.aload_n 0, 1) := by decide +kernel
theorem dJ0_indexOf_0f7a4_1 : decode cJ0_indexOf_0f7a4 1 = .ok (.iload_n 1, 1) := by decide +kernel
theorem dJ0_indexOf_0f7a4_2 : decode cJ0_indexOf_0f7a4 2 = .ok (.iconst 0, 1) := by decide +kernel
theorem dJ0_indexOf_0f7a4_3 : decode cJ0_indexOf_0f7a4 3 = .ok (.invokevirtual 633, 3) := by decide +kernel
theorem dJ0_indexOf_0f7a4_6 : decode cJ0_indexOf_0f7a4 6 = .ok (.ireturn, 1) := by decide +kernel
theorem dJ0_indexOf_7cf53_0 : decode cJ0_indexOf_7cf53 0 = .ok (.aload_n 0, 1) := by decide +kernel
theorem dJ0_indexOf_7cf53_1 : decode cJ0_indexOf_7cf53 1 = .ok (.invokevirtual 492, 3) := by decide +kernel
theorem dJ0_indexOf_7cf53_4 : decode cJ0_indexOf_7cf53 4 = .ok (.ifCond .eq 19, 3) := by decide +kernel
theorem dJ0_indexOf_7cf53_7 : decode cJ0_indexOf_7cf53 7 = .ok (.aload_n 0, 1) := by decide +kernel
theorem dJ0_indexOf_7cf53_8 : decode cJ0_indexOf_7cf53 8 = .ok (.getfield 9, 3) := by decide +kernel
theorem dJ0_indexOf_7cf53_11 : decode cJ0_indexOf_7cf53 11 = .ok (.iload_n 1, 1) := by decide +kernel
theorem dJ0_indexOf_7cf53_12 : decode cJ0_indexOf_7cf53 12 = .ok (.iload_n 2, 1) := by decide +kernel
theorem dJ0_indexOf_7cf53_13 : decode cJ0_indexOf_7cf53 13 = .ok (.aload_n 0, 1) := by decide +kernel
theorem dJ0_indexOf_7cf53_14 : decode cJ0_indexOf_7cf53 14 = .ok (.invokevirtual 505, 3) := by decide +kernel
theorem dJ0_indexOf_7cf53_17 : decode cJ0_indexOf_7cf53 17 = .ok (.invokestatic 637, 3) := by decide +kernel
theorem dJ0_indexOf_7cf53_20 : decode cJ0_indexOf_7cf53 20 = .ok (.goto 16, 3) := by decide +kernel
theorem dJ0_indexOf_7cf53_23 : decode cJ0_indexOf_7cf53 23 = .ok (.aload_n 0, 1) := by decide +kernel
theorem dJ0_indexOf_7cf53_24 : decode cJ0_indexOf_7cf53 24 = .ok (.getfield 9, 3) := by decide +kernel
theorem dJ0_indexOf_7cf53_27 : decode cJ0_indexOf_7cf53 27 = .ok (.iload_n 1, 1) := by decide +kernel
theorem dJ0_indexOf_7cf53_28 : decode cJ0_indexOf_7cf53 28 = .ok (.iload_n 2, 1) := by decide +kernel
theorem dJ0_indexOf_7cf53_29 : decode cJ0_indexOf_7cf53 29 = .ok (.aload_n 0, 1) := by decide +kernel
theorem dJ0_indexOf_7cf53_30 : decode cJ0_indexOf_7cf53 30 = .ok (.invokevirtual 505, 3) := by decide +kernel
theorem dJ0_indexOf_7cf53_33 : decode cJ0_indexOf_7cf53 33 = .ok (.invokestatic 640, 3) := by decide +kernel
theorem dJ0_indexOf_7cf53_36 : decode cJ0_indexOf_7cf53 36 = .ok (.ireturn, 1) := by decide +kernel
theorem dJ0_coder_7d493_0 : decode cJ0_coder_7d493 0 = .ok (.getstatic 38, 3) := by decide +kernel
theorem dJ0_coder_7d493_3 : decode cJ0_coder_7d493 3 = .ok (.ifCond .eq 10, 3) := by decide +kernel
theorem dJ0_coder_7d493_6 : decode cJ0_coder_7d493 6 = .ok (.aload_n 0, 1) := by decide +kernel
theorem dJ0_coder_7d493_7 : decode cJ0_coder_7d493 7 = .ok (.getfield 15, 3) := by decide +kernel
theorem dJ0_coder_7d493_10 : decode cJ0_coder_7d493 10 = .ok (.goto 4, 3) := by decide +kernel
theorem dJ0_coder_7d493_13 : decode cJ0_coder_7d493 13 = .ok (.iconst 1, 1) := by decide +kernel
theorem dJ0_coder_7d493_14 : decode cJ0_coder_7d493 14 = .ok (.ireturn, 1) := by decide +kernel
theorem dJ0_isLatin1_aae02_0 : decode cJ0_isLatin1_aae02 0 = .ok (.getstatic 38, 3) := by decide +kernel
theorem dJ0_isLatin1_aae02_3 : decode cJ0_isLatin1_aae02 3 = .ok (.ifCond .eq 14, 3) := by decide +kernel
theorem dJ0_isLatin1_aae02_6 : decode cJ0_isLatin1_aae02 6 = .ok (.aload_n 0, 1) := by decide +kernel
theorem dJ0_isLatin1_aae02_7 : decode cJ0_isLatin1_aae02 7 = .ok (.getfield 15, 3) := by decide +kernel
theorem dJ0_isLatin1_aae02_10 : decode cJ0_isLatin1_aae02 10 = .ok (.ifCond .ne 7, 3) := by decide +kernel
theorem dJ0_isLatin1_aae02_13 : decode cJ0_isLatin1_aae02 13 = .ok (.iconst 1, 1) := by decide +kernel
theorem dJ0_isLatin1_aae02_14 : decode cJ0_isLatin1_aae02 14 = .ok (.goto 4, 3) := by decide +kernel
theorem dJ0_isLatin1_aae02_17 : decode cJ0_isLatin1_aae02 17 = .ok (.iconst 0, 1) := by decide +kernel
theorem dJ0_isLatin1_aae02_18 : decode cJ0_isLatin1_aae02 18 = .ok (.ireturn, 1) := by decide +kernel
theorem dJ1_charAt_3b067_0 : decode cJ1_charAt_3b067 0 = .ok (.iload_n 1, 1) := by decide +kernel
theorem dJ1_charAt_3b067_1 : decode cJ1_charAt_3b067 1 = .ok (.aload_n 0, 1) := by decide +kernel
theorem dJ1_charAt_3b067_2 : decode cJ1_charAt_3b067 2 = .ok (.arraylength, 1) := by decide +kernel
theorem dJ1_charAt_3b067_3 : decode cJ1_charAt_3b067 3 = .ok (.invokestatic 9, 3) := by decide +kernel
theorem dJ1_charAt_3b067_6 : decode cJ1_charAt_3b067 6 = .ok (.aload_n 0, 1) := by decide +kernel
theorem dJ1_charAt_3b067_7 : decode cJ1_charAt_3b067 7 = .ok (.iload_n 1, 1) := by decide +kernel
theorem dJ1_charAt_3b067_8 : decode cJ1_charAt_3b067 8 = .ok (.baload, 1) := by decide +kernel
theorem dJ1_charAt_3b067_9 : decode cJ1_charAt_3b067 9 = .ok (.sipush 255, 3) := by decide +kernel
theorem dJ1_charAt_3b067_12 : decode cJ1_charAt_3b067 12 = .ok (.iand, 1) := by decide +kernel
theorem dJ1_charAt_3b067_13 : decode cJ1_charAt_3b067 13 = .ok (.i2c, 1) := by decide +kernel
theorem dJ1_charAt_3b067_14 : decode cJ1_charAt_3b067 14 = .ok (.ireturn, 1) := by decide +kernel
theorem dJ1_canEncode_9a6ad_0 : decode cJ1_canEncode_9a6ad 0 = .ok (.iload_n 0, 1) := by decide +kernel
theorem dJ1_canEncode_9a6ad_1 : decode cJ1_canEncode_9a6ad 1 = .ok (.ifCond .lt 14, 3) := by decide +kernel
theorem dJ1_canEncode_9a6ad_4 : decode cJ1_canEncode_9a6ad 4 = .ok (.iload_n 0, 1) := by decide +kernel
theorem dJ1_canEncode_9a6ad_5 : decode cJ1_canEncode_9a6ad 5 = .ok (.sipush 255, 3) := by decide +kernel
theorem dJ1_canEncode_9a6ad_8 : decode cJ1_canEncode_9a6ad 8 = .ok (.if_icmp .gt 7, 3) := by decide +kernel
theorem dJ1_canEncode_9a6ad_11 : decode cJ1_canEncode_9a6ad 11 = .ok (.iconst 1, 1) := by decide +kernel
theorem dJ1_canEncode_9a6ad_12 : decode cJ1_canEncode_9a6ad 12 = .ok (.goto 4, 3) := by decide +kernel
theorem dJ1_canEncode_9a6ad_15 : decode cJ1_canEncode_9a6ad 15 = .ok (.iconst 0, 1) := by decide +kernel
theorem dJ1_canEncode_9a6ad_16 : decode cJ1_canEncode_9a6ad 16 = .ok (.ireturn, 1) := by decide +kernel
theorem dJ1_indexOf_4cfef_0 : decode cJ1_indexOf_4cfef 0 = .ok (.iload_n 1, 1) := by decide +kernel
theorem dJ1_indexOf_4cfef_1 : decode cJ1_indexOf_4cfef 1 = .ok (.invokestatic 88, 3) := by decide +kernel
theorem dJ1_indexOf_4cfef_4 : decode cJ1_indexOf_4cfef 4 = .ok (.ifCond .ne 5, 3) := by decide +kernel
theorem dJ1_indexOf_4cfef_7 : decode cJ1_indexOf_4cfef 7 = .ok (.iconst (-1), 1) := by decide +kernel
theorem dJ1_indexOf_4cfef_8 : decode cJ1_indexOf_4cfef 8 = .ok (.ireturn, 1) := by decide +kernel
theorem dJ1_indexOf_4cfef_9 : decode cJ1_indexOf_4cfef 9 = .ok (.iload_n 2, 1) := by decide +kernel
theorem dJ1_indexOf_4cfef_10 : decode cJ1_indexOf_4cfef 10 = .ok (.iconst 0, 1) := by decide +kernel
theorem dJ1_indexOf_4cfef_11 : decode cJ1_indexOf_4cfef 11 = .ok (.invokestatic 92, 3) := by decide +kernel
theorem dJ1_indexOf_4cfef_14 : decode cJ1_indexOf_4cfef 14 = .ok (.istore_n 2, 1) := by decide +kernel
theorem dJ1_indexOf_4cfef_15 : decode cJ1_indexOf_4cfef 15 = .ok (.iload_n 3, 1) := by decide +kernel
theorem dJ1_indexOf_4cfef_16 : decode cJ1_indexOf_4cfef 16 = .ok (.aload_n 0, 1) := by decide +kernel
theorem dJ1_indexOf_4cfef_17 : decode cJ1_indexOf_4cfef 17 = .ok (.arraylength, 1) := by decide +kernel
theorem dJ1_indexOf_4cfef_18 : decode cJ1_indexOf_4cfef 18 = .ok (.invokestatic 38, 3) := by decide +kernel
theorem dJ1_indexOf_4cfef_21 : decode cJ1_indexOf_4cfef 21 = .ok (.istore_n 3, 1) := by decide +kernel
theorem dJ1_indexOf_4cfef_22 : decode cJ1_indexOf_4cfef 22 = .ok (.iload_n 2, 1) := by decide +kernel
theorem dJ1_indexOf_4cfef_23 : decode cJ1_indexOf_4cfef 23 = .ok (.iload_n 3, 1) := by decide +kernel
theorem dJ1_indexOf_4cfef_24 : decode cJ1_indexOf_4cfef 24 = .ok (.if_icmp .lt 5, 3) := by decide +kernel
theorem dJ1_indexOf_4cfef_27 : decode cJ1_indexOf_4cfef 27 = .ok (.iconst (-1), 1) := by decide +kernel
theorem dJ1_indexOf_4cfef_28 : decode cJ1_indexOf_4cfef 28 = .ok (.ireturn, 1) := by decide +kernel
theorem dJ1_indexOf_4cfef_29 : decode cJ1_indexOf_4cfef 29 = .ok (.aload_n 0, 1) := by decide +kernel
theorem dJ1_indexOf_4cfef_30 : decode cJ1_indexOf_4cfef 30 = .ok (.iload_n 1, 1) := by decide +kernel
theorem dJ1_indexOf_4cfef_31 : decode cJ1_indexOf_4cfef 31 = .ok (.iload_n 2, 1) := by decide +kernel
theorem dJ1_indexOf_4cfef_32 : decode cJ1_indexOf_4cfef 32 = .ok (.iload_n 3, 1) := by decide +kernel
theorem dJ1_indexOf_4cfef_33 : decode cJ1_indexOf_4cfef 33 = .ok (.invokestatic 95, 3) := by decide +kernel
theorem dJ1_indexOf_4cfef_36 : decode cJ1_indexOf_4cfef 36 = .ok (.ireturn, 1) := by decide +kernel
theorem dJ1_indexOfChar_4cfef_0 : decode cJ1_indexOfChar_4cfef 0 = .ok (.iload_n 1, 1) := by decide +kernel
theorem dJ1_indexOfChar_4cfef_1 : decode cJ1_indexOfChar_4cfef 1 = .ok (.i2b, 1) := by decide +kernel
theorem dJ1_indexOfChar_4cfef_2 : decode cJ1_indexOfChar_4cfef 2 = .ok (.istore 4, 2) := by decide +kernel
theorem dJ1_indexOfChar_4cfef_4 : decode cJ1_indexOfChar_4cfef 4 = .ok (.iload_n 2, 1) := by decide +kernel
theorem dJ1_indexOfChar_4cfef_5 : decode cJ1_indexOfChar_4cfef 5 = .ok (.istore 5, 2) := by decide +kernel
theorem dJ1_indexOfChar_4cfef_7 : decode cJ1_indexOfChar_4cfef 7 = .ok (.iload 5, 2) := by decide +kernel
theorem dJ1_indexOfChar_4cfef_9 : decode cJ1_indexOfChar_4cfef 9 = .ok (.iload_n 3, 1) := by decide +kernel
theorem dJ1_indexOfChar_4cfef_10 : decode cJ1_indexOfChar_4cfef 10 = .ok (.if_icmp .ge 21, 3) := by decide +kernel
theorem dJ1_indexOfChar_4cfef_13 : decode cJ1_indexOfChar_4cfef 13 = .ok (.aload_n 0, 1) := by decide +kernel
theorem dJ1_indexOfChar_4cfef_14 : decode cJ1_indexOfChar_4cfef 14 = .ok (.iload 5, 2) := by decide +kernel
theorem dJ1_indexOfChar_4cfef_16 : decode cJ1_indexOfChar_4cfef 16 = .ok (.baload, 1) := by decide +kernel
theorem dJ1_indexOfChar_4cfef_17 : decode cJ1_indexOfChar_4cfef 17 = .ok (.iload 4, 2) := by decide +kernel
theorem dJ1_indexOfChar_4cfef_19 : decode cJ1_indexOfChar_4cfef 19 = .ok (.if_icmp .ne 6, 3) := by decide +kernel
theorem dJ1_indexOfChar_4cfef_22 : decode cJ1_indexOfChar_4cfef 22 = .ok (.iload 5, 2) := by decide +kernel
theorem dJ1_indexOfChar_4cfef_24 : decode cJ1_indexOfChar_4cfef 24 = .ok (.ireturn, 1) := by decide +kernel
theorem dJ1_indexOfChar_4cfef_25 : decode cJ1_indexOfChar_4cfef 25 = .ok (.iinc 5 1, 3) := by decide +kernel
theorem dJ1_indexOfChar_4cfef_28 : decode cJ1_indexOfChar_4cfef 28 = .ok (.goto (-21), 3) := by decide +kernel
theorem dJ1_indexOfChar_4cfef_31 : decode cJ1_indexOfChar_4cfef 31 = .ok (.iconst (-1), 1) := by decide +kernel
theorem dJ1_indexOfChar_4cfef_32 : decode cJ1_indexOfChar_4cfef 32 = .ok (.ireturn, 1) := by decide +kernel
theorem dJ7_fill_53178_0 : decode cJ7_fill_53178 0 = .ok (.iconst 0, 1) := by decide +kernel
theorem dJ7_fill_53178_1 : decode cJ7_fill_53178 1 = .ok (.istore_n 2, 1) := by decide +kernel
theorem dJ7_fill_53178_2 : decode cJ7_fill_53178 2 = .ok (.aload_n 0, 1) := by decide +kernel
theorem dJ7_fill_53178_3 : decode cJ7_fill_53178 3 = .ok (.arraylength, 1) := by decide +kernel
theorem dJ7_fill_53178_4 : decode cJ7_fill_53178 4 = .ok (.istore_n 3, 1) := by decide +kernel
theorem dJ7_fill_53178_5 : decode cJ7_fill_53178 5 = .ok (.iload_n 2, 1) := by decide +kernel
theorem dJ7_fill_53178_6 : decode cJ7_fill_53178 6 = .ok (.iload_n 3, 1) := by decide +kernel
theorem dJ7_fill_53178_7 : decode cJ7_fill_53178 7 = .ok (.if_icmp .ge 13, 3) := by decide +kernel
theorem dJ7_fill_53178_10 : decode cJ7_fill_53178 10 = .ok (.aload_n 0, 1) := by decide +kernel
theorem dJ7_fill_53178_11 : decode cJ7_fill_53178 11 = .ok (.iload_n 2, 1) := by decide +kernel
theorem dJ7_fill_53178_12 : decode cJ7_fill_53178 12 = .ok (.iload_n 1, 1) := by decide +kernel
theorem dJ7_fill_53178_13 : decode cJ7_fill_53178 13 = .ok (.iastore, 1) := by decide +kernel
theorem dJ7_fill_53178_14 : decode cJ7_fill_53178 14 = .ok (.iinc 2 1, 3) := by decide +kernel
theorem dJ7_fill_53178_17 : decode cJ7_fill_53178 17 = .ok (.goto (-12), 3) := by decide +kernel
theorem dJ7_fill_53178_20 : decode cJ7_fill_53178 20 = .ok (.return_, 1) := by decide +kernel
theorem dJ0_checkIndex_df160_0 : decode cJ0_checkIndex_df160 0 = .ok (.iload_n 0, 1) := by decide +kernel
theorem dJ0_checkIndex_df160_1 : decode cJ0_checkIndex_df160 1 = .ok (.iload_n 1, 1) := by decide +kernel
theorem dJ0_checkIndex_df160_2 : decode cJ0_checkIndex_df160 2 = .ok (.getstatic 1053, 3) := by decide +kernel
theorem dJ0_checkIndex_df160_5 : decode cJ0_checkIndex_df160 5 = .ok (.invokestatic 1059, 3) := by decide +kernel
theorem dJ0_checkIndex_df160_8 : decode cJ0_checkIndex_df160 8 = .ok (.pop, 1) := by decide +kernel
theorem dJ0_checkIndex_df160_9 : decode cJ0_checkIndex_df160 9 = .ok (.return_, 1) := by decide +kernel
theorem dJ3_checkIndex_8e157_0 : decode cJ3_checkIndex_8e157 0 = .ok (.iload_n 0, 1) := by decide +kernel
theorem dJ3_checkIndex_8e157_1 : decode cJ3_checkIndex_8e157 1 = .ok (.ifCond .lt 8, 3) := by decide +kernel
theorem dJ3_checkIndex_8e157_4 : decode cJ3_checkIndex_8e157 4 = .ok (.iload_n 0, 1) := by decide +kernel
theorem dJ3_checkIndex_8e157_5 : decode cJ3_checkIndex_8e157 5 = .ok (.iload_n 1, 1) := by decide +kernel
theorem dJ3_checkIndex_8e157_6 : decode cJ3_checkIndex_8e157 6 = .ok (.if_icmp .lt 10, 3) := by decide +kernel
theorem dJ3_checkIndex_8e157_9 : decode cJ3_checkIndex_8e157 9 = .ok (.aload_n 2, 1) := by decide +kernel
theorem dJ3_checkIndex_8e157_10 : decode cJ3_checkIndex_8e157 10 = .ok (.iload_n 0, 1) := by decide +kernel
theorem dJ3_checkIndex_8e157_11 : decode cJ3_checkIndex_8e157 11 = .ok (.iload_n 1, 1) := by decide +kernel
theorem dJ3_checkIndex_8e157_12 : decode cJ3_checkIndex_8e157 12 = .ok (.invokestatic 95, 3) := by decide +kernel
theorem dJ3_checkIndex_8e157_15 : decode cJ3_checkIndex_8e157 15 = .ok (.athrow, 1) := by decide +kernel
theorem dJ3_checkIndex_8e157_16 : decode cJ3_checkIndex_8e157 16 = .ok (.iload_n 0, 1) := by decide +kernel
theorem dJ3_checkIndex_8e157_17 : decode cJ3_checkIndex_8e157 17 = .ok (.ireturn, 1) := by decide +kernel
