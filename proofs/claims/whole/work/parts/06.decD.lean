theorem dX9_dark_0 : decode cX9_dark 0 = .ok (.iload_n 1, 1) := by decide +kernel
theorem dX9_dark_1 : decode cX9_dark 1 = .ok (.i2l, 1) := by decide +kernel
theorem dX9_dark_2 : decode cX9_dark 2 = .ok (.lconst 0, 1) := by decide +kernel
theorem dX9_dark_3 : decode cX9_dark 3 = .ok (.ldc2_w 197, 3) := by decide +kernel
theorem dX9_dark_6 : decode cX9_dark 6 = .ok (.invokestatic 65, 3) := by decide +kernel
theorem dX9_dark_9 : decode cX9_dark 9 = .ok (.ifCond .ne 6, 3) := by decide +kernel
theorem dX9_dark_12 : decode cX9_dark 12 = .ok (.ldc 72, 2) := by decide +kernel
theorem dX9_dark_14 : decode cX9_dark 14 = .ok (.ireturn, 1) := by decide +kernel
theorem dX9_dark_15 : decode cX9_dark 15 = .ok (.iconst 0, 1) := by decide +kernel
theorem dX9_dark_16 : decode cX9_dark 16 = .ok (.istore_n 2, 1) := by decide +kernel
theorem dX9_dark_17 : decode cX9_dark 17 = .ok (.iconst 0, 1) := by decide +kernel
theorem dX9_dark_18 : decode cX9_dark 18 = .ok (.istore_n 3, 1) := by decide +kernel
theorem dX9_dark_19 : decode cX9_dark 19 = .ok (.iload_n 3, 1) := by decide +kernel
theorem dX9_dark_20 : decode cX9_dark 20 = .ok (.aload_n 0, 1) := by decide +kernel
theorem dX9_dark_21 : decode cX9_dark 21 = .ok (.getfield 7, 3) := by decide +kernel
theorem dX9_dark_24 : decode cX9_dark 24 = .ok (.iconst 0, 1) := by decide +kernel
theorem dX9_dark_25 : decode cX9_dark 25 = .ok (.iaload, 1) := by decide +kernel
theorem dX9_dark_26 : decode cX9_dark 26 = .ok (.if_icmp .ge 28, 3) := by decide +kernel
theorem dX9_dark_29 : decode cX9_dark 29 = .ok (.iload_n 2, 1) := by decide +kernel
theorem dX9_dark_30 : decode cX9_dark 30 = .ok (.aload_n 0, 1) := by decide +kernel
theorem dX9_dark_31 : decode cX9_dark 31 = .ok (.iload_n 3, 1) := by decide +kernel
theorem dX9_dark_32 : decode cX9_dark 32 = .ok (.invokevirtual 98, 3) := by decide +kernel
theorem dX9_dark_35 : decode cX9_dark 35 = .ok (.iload_n 1, 1) := by decide +kernel
theorem dX9_dark_36 : decode cX9_dark 36 = .ok (.if_icmp .ge 9, 3) := by decide +kernel
theorem dX9_dark_39 : decode cX9_dark 39 = .ok (.iconst 1, 1) := by decide +kernel
theorem dX9_dark_40 : decode cX9_dark 40 = .ok (.iload_n 3, 1) := by decide +kernel
theorem dX9_dark_41 : decode cX9_dark 41 = .ok (.ishl, 1) := by decide +kernel
theorem dX9_dark_42 : decode cX9_dark 42 = .ok (.goto 4, 3) := by decide +kernel
theorem dX9_dark_45 : decode cX9_dark 45 = .ok (.iconst 0, 1) := by decide +kernel
theorem dX9_dark_46 : decode cX9_dark 46 = .ok (.ior, 1) := by decide +kernel
theorem dX9_dark_47 : decode cX9_dark 47 = .ok (.istore_n 2, 1) := by decide +kernel
theorem dX9_dark_48 : decode cX9_dark 48 = .ok (.iinc 3 1, 3) := by decide +kernel
theorem dX9_dark_51 : decode cX9_dark 51 = .ok (.goto (-32), 3) := by decide +kernel
theorem dX9_dark_54 : decode cX9_dark 54 = .ok (.iload_n 2, 1) := by decide +kernel
theorem dX9_dark_55 : decode cX9_dark 55 = .ok (.ireturn, 1) := by decide +kernel
theorem dX9_laysFires_0 : decode cX9_laysFires 0 = .ok (.iconst 0, 1) := by decide +kernel
theorem dX9_laysFires_1 : decode cX9_laysFires 1 = .ok (.istore_n 2, 1) := by decide +kernel
theorem dX9_laysFires_2 : decode cX9_laysFires 2 = .ok (.iconst 0, 1) := by decide +kernel
theorem dX9_laysFires_3 : decode cX9_laysFires 3 = .ok (.istore_n 3, 1) := by decide +kernel
theorem dX9_laysFires_4 : decode cX9_laysFires 4 = .ok (.iload_n 3, 1) := by decide +kernel
theorem dX9_laysFires_5 : decode cX9_laysFires 5 = .ok (.aload_n 0, 1) := by decide +kernel
theorem dX9_laysFires_6 : decode cX9_laysFires 6 = .ok (.getfield 7, 3) := by decide +kernel
theorem dX9_laysFires_9 : decode cX9_laysFires 9 = .ok (.iconst 0, 1) := by decide +kernel
theorem dX9_laysFires_10 : decode cX9_laysFires 10 = .ok (.iaload, 1) := by decide +kernel
theorem dX9_laysFires_11 : decode cX9_laysFires 11 = .ok (.if_icmp .ge 47, 3) := by decide +kernel
theorem dX9_laysFires_14 : decode cX9_laysFires 14 = .ok (.iload_n 1, 1) := by decide +kernel
theorem dX9_laysFires_15 : decode cX9_laysFires 15 = .ok (.iconst 2, 1) := by decide +kernel
theorem dX9_laysFires_16 : decode cX9_laysFires 16 = .ok (.aload_n 0, 1) := by decide +kernel
theorem dX9_laysFires_17 : decode cX9_laysFires 17 = .ok (.getfield 7, 3) := by decide +kernel
theorem dX9_laysFires_20 : decode cX9_laysFires 20 = .ok (.iconst 0, 1) := by decide +kernel
theorem dX9_laysFires_21 : decode cX9_laysFires 21 = .ok (.iaload, 1) := by decide +kernel
theorem dX9_laysFires_22 : decode cX9_laysFires 22 = .ok (.iconst 1, 1) := by decide +kernel
theorem dX9_laysFires_23 : decode cX9_laysFires 23 = .ok (.isub, 1) := by decide +kernel
theorem dX9_laysFires_24 : decode cX9_laysFires 24 = .ok (.iload_n 3, 1) := by decide +kernel
theorem dX9_laysFires_25 : decode cX9_laysFires 25 = .ok (.isub, 1) := by decide +kernel
theorem dX9_laysFires_26 : decode cX9_laysFires 26 = .ok (.imul, 1) := by decide +kernel
theorem dX9_laysFires_27 : decode cX9_laysFires 27 = .ok (.ishr, 1) := by decide +kernel
theorem dX9_laysFires_28 : decode cX9_laysFires 28 = .ok (.iconst 3, 1) := by decide +kernel
theorem dX9_laysFires_29 : decode cX9_laysFires 29 = .ok (.iand, 1) := by decide +kernel
theorem dX9_laysFires_30 : decode cX9_laysFires 30 = .ok (.istore 4, 2) := by decide +kernel
theorem dX9_laysFires_32 : decode cX9_laysFires 32 = .ok (.aload_n 0, 1) := by decide +kernel
theorem dX9_laysFires_33 : decode cX9_laysFires 33 = .ok (.getfield 7, 3) := by decide +kernel
theorem dX9_laysFires_36 : decode cX9_laysFires 36 = .ok (.bipush 12, 2) := by decide +kernel
theorem dX9_laysFires_38 : decode cX9_laysFires 38 = .ok (.iconst 3, 1) := by decide +kernel
theorem dX9_laysFires_39 : decode cX9_laysFires 39 = .ok (.iload_n 3, 1) := by decide +kernel
theorem dX9_laysFires_40 : decode cX9_laysFires 40 = .ok (.imul, 1) := by decide +kernel
theorem dX9_laysFires_41 : decode cX9_laysFires 41 = .ok (.iadd, 1) := by decide +kernel
theorem dX9_laysFires_42 : decode cX9_laysFires 42 = .ok (.iconst 1, 1) := by decide +kernel
theorem dX9_laysFires_43 : decode cX9_laysFires 43 = .ok (.iadd, 1) := by decide +kernel
theorem dX9_laysFires_44 : decode cX9_laysFires 44 = .ok (.iload 4, 2) := by decide +kernel
theorem dX9_laysFires_46 : decode cX9_laysFires 46 = .ok (.iastore, 1) := by decide +kernel
theorem dX9_laysFires_47 : decode cX9_laysFires 47 = .ok (.iload_n 2, 1) := by decide +kernel
theorem dX9_laysFires_48 : decode cX9_laysFires 48 = .ok (.iload 4, 2) := by decide +kernel
theorem dX9_laysFires_50 : decode cX9_laysFires 50 = .ok (.iadd, 1) := by decide +kernel
theorem dX9_laysFires_51 : decode cX9_laysFires 51 = .ok (.istore_n 2, 1) := by decide +kernel
theorem dX9_laysFires_52 : decode cX9_laysFires 52 = .ok (.iinc 3 1, 3) := by decide +kernel
theorem dX9_laysFires_55 : decode cX9_laysFires 55 = .ok (.goto (-51), 3) := by decide +kernel
theorem dX9_laysFires_58 : decode cX9_laysFires 58 = .ok (.iload_n 2, 1) := by decide +kernel
theorem dX9_laysFires_59 : decode cX9_laysFires 59 = .ok (.ireturn, 1) := by decide +kernel
theorem dX9_leastLight_0 : decode cX9_leastLight 0 = .ok (.sipush 1000, 3) := by decide +kernel
theorem dX9_leastLight_3 : decode cX9_leastLight 3 = .ok (.istore_n 1, 1) := by decide +kernel
theorem dX9_leastLight_4 : decode cX9_leastLight 4 = .ok (.iconst 0, 1) := by decide +kernel
theorem dX9_leastLight_5 : decode cX9_leastLight 5 = .ok (.istore_n 2, 1) := by decide +kernel
theorem dX9_leastLight_6 : decode cX9_leastLight 6 = .ok (.iload_n 2, 1) := by decide +kernel
theorem dX9_leastLight_7 : decode cX9_leastLight 7 = .ok (.aload_n 0, 1) := by decide +kernel
theorem dX9_leastLight_8 : decode cX9_leastLight 8 = .ok (.getfield 7, 3) := by decide +kernel
theorem dX9_leastLight_11 : decode cX9_leastLight 11 = .ok (.iconst 0, 1) := by decide +kernel
theorem dX9_leastLight_12 : decode cX9_leastLight 12 = .ok (.iaload, 1) := by decide +kernel
theorem dX9_leastLight_13 : decode cX9_leastLight 13 = .ok (.if_icmp .ge 26, 3) := by decide +kernel
theorem dX9_leastLight_16 : decode cX9_leastLight 16 = .ok (.aload_n 0, 1) := by decide +kernel
theorem dX9_leastLight_17 : decode cX9_leastLight 17 = .ok (.iload_n 2, 1) := by decide +kernel
theorem dX9_leastLight_18 : decode cX9_leastLight 18 = .ok (.invokevirtual 98, 3) := by decide +kernel
theorem dX9_leastLight_21 : decode cX9_leastLight 21 = .ok (.istore_n 3, 1) := by decide +kernel
theorem dX9_leastLight_22 : decode cX9_leastLight 22 = .ok (.iload_n 3, 1) := by decide +kernel
theorem dX9_leastLight_23 : decode cX9_leastLight 23 = .ok (.iload_n 1, 1) := by decide +kernel
theorem dX9_leastLight_24 : decode cX9_leastLight 24 = .ok (.if_icmp .ge 7, 3) := by decide +kernel
theorem dX9_leastLight_27 : decode cX9_leastLight 27 = .ok (.iload_n 3, 1) := by decide +kernel
theorem dX9_leastLight_28 : decode cX9_leastLight 28 = .ok (.goto 4, 3) := by decide +kernel
theorem dX9_leastLight_31 : decode cX9_leastLight 31 = .ok (.iload_n 1, 1) := by decide +kernel
theorem dX9_leastLight_32 : decode cX9_leastLight 32 = .ok (.istore_n 1, 1) := by decide +kernel
theorem dX9_leastLight_33 : decode cX9_leastLight 33 = .ok (.iinc 2 1, 3) := by decide +kernel
theorem dX9_leastLight_36 : decode cX9_leastLight 36 = .ok (.goto (-30), 3) := by decide +kernel
theorem dX9_leastLight_39 : decode cX9_leastLight 39 = .ok (.iload_n 1, 1) := by decide +kernel
theorem dX9_leastLight_40 : decode cX9_leastLight 40 = .ok (.ireturn, 1) := by decide +kernel
theorem dX9_fires_0 : decode cX9_fires 0 = .ok (.iload_n 1, 1) := by decide +kernel
theorem dX9_fires_1 : decode cX9_fires 1 = .ok (.i2l, 1) := by decide +kernel
theorem dX9_fires_2 : decode cX9_fires 2 = .ok (.lconst 0, 1) := by decide +kernel
theorem dX9_fires_3 : decode cX9_fires 3 = .ok (.ldc2_w 199, 3) := by decide +kernel
theorem dX9_fires_6 : decode cX9_fires 6 = .ok (.invokestatic 65, 3) := by decide +kernel
theorem dX9_fires_9 : decode cX9_fires 9 = .ok (.ifCond .eq 15, 3) := by decide +kernel
theorem dX9_fires_12 : decode cX9_fires 12 = .ok (.iload_n 2, 1) := by decide +kernel
theorem dX9_fires_13 : decode cX9_fires 13 = .ok (.i2l, 1) := by decide +kernel
theorem dX9_fires_14 : decode cX9_fires 14 = .ok (.lconst 0, 1) := by decide +kernel
theorem dX9_fires_15 : decode cX9_fires 15 = .ok (.ldc2_w 110, 3) := by decide +kernel
theorem dX9_fires_18 : decode cX9_fires 18 = .ok (.invokestatic 65, 3) := by decide +kernel
theorem dX9_fires_21 : decode cX9_fires 21 = .ok (.ifCond .ne 6, 3) := by decide +kernel
theorem dX9_fires_24 : decode cX9_fires 24 = .ok (.ldc 72, 2) := by decide +kernel
theorem dX9_fires_26 : decode cX9_fires 26 = .ok (.ireturn, 1) := by decide +kernel
theorem dX9_fires_27 : decode cX9_fires 27 = .ok (.aload_n 0, 1) := by decide +kernel
theorem dX9_fires_28 : decode cX9_fires 28 = .ok (.getfield 7, 3) := by decide +kernel
theorem dX9_fires_31 : decode cX9_fires 31 = .ok (.iconst 0, 1) := by decide +kernel
theorem dX9_fires_32 : decode cX9_fires 32 = .ok (.iaload, 1) := by decide +kernel
theorem dX9_fires_33 : decode cX9_fires 33 = .ok (.ifCond .eq 14, 3) := by decide +kernel
theorem dX9_fires_36 : decode cX9_fires 36 = .ok (.aload_n 0, 1) := by decide +kernel
theorem dX9_fires_37 : decode cX9_fires 37 = .ok (.getfield 7, 3) := by decide +kernel
theorem dX9_fires_40 : decode cX9_fires 40 = .ok (.iconst 0, 1) := by decide +kernel
theorem dX9_fires_41 : decode cX9_fires 41 = .ok (.iaload, 1) := by decide +kernel
theorem dX9_fires_42 : decode cX9_fires 42 = .ok (.bipush 6, 2) := by decide +kernel
theorem dX9_fires_44 : decode cX9_fires 44 = .ok (.if_icmp .le 6, 3) := by decide +kernel
theorem dX9_fires_47 : decode cX9_fires 47 = .ok (.ldc 64, 2) := by decide +kernel
theorem dX9_fires_49 : decode cX9_fires 49 = .ok (.ireturn, 1) := by decide +kernel
theorem dX9_fires_50 : decode cX9_fires 50 = .ok (.aload_n 0, 1) := by decide +kernel
theorem dX9_fires_51 : decode cX9_fires 51 = .ok (.invokevirtual 184, 3) := by decide +kernel
theorem dX9_fires_54 : decode cX9_fires 54 = .ok (.iconst 0, 1) := by decide +kernel
theorem dX9_fires_55 : decode cX9_fires 55 = .ok (.istore_n 3, 1) := by decide +kernel
theorem dX9_fires_56 : decode cX9_fires 56 = .ok (.iconst (-1), 1) := by decide +kernel
theorem dX9_fires_57 : decode cX9_fires 57 = .ok (.istore 4, 2) := by decide +kernel
theorem dX9_fires_59 : decode cX9_fires 59 = .ok (.iconst 0, 1) := by decide +kernel
theorem dX9_fires_60 : decode cX9_fires 60 = .ok (.istore 5, 2) := by decide +kernel
theorem dX9_fires_62 : decode cX9_fires 62 = .ok (.iconst 0, 1) := by decide +kernel
theorem dX9_fires_63 : decode cX9_fires 63 = .ok (.istore 6, 2) := by decide +kernel
theorem dX9_fires_65 : decode cX9_fires 65 = .ok (.iload 6, 2) := by decide +kernel
theorem dX9_fires_67 : decode cX9_fires 67 = .ok (.iconst 1, 1) := by decide +kernel
theorem dX9_fires_68 : decode cX9_fires 68 = .ok (.iconst 2, 1) := by decide +kernel
theorem dX9_fires_69 : decode cX9_fires 69 = .ok (.aload_n 0, 1) := by decide +kernel
theorem dX9_fires_70 : decode cX9_fires 70 = .ok (.getfield 7, 3) := by decide +kernel
theorem dX9_fires_73 : decode cX9_fires 73 = .ok (.iconst 0, 1) := by decide +kernel
theorem dX9_fires_74 : decode cX9_fires 74 = .ok (.iaload, 1) := by decide +kernel
theorem dX9_fires_75 : decode cX9_fires 75 = .ok (.imul, 1) := by decide +kernel
theorem dX9_fires_76 : decode cX9_fires 76 = .ok (.ishl, 1) := by decide +kernel
theorem dX9_fires_77 : decode cX9_fires 77 = .ok (.if_icmp .ge 70, 3) := by decide +kernel
theorem dX9_fires_80 : decode cX9_fires 80 = .ok (.aload_n 0, 1) := by decide +kernel
theorem dX9_fires_81 : decode cX9_fires 81 = .ok (.iload 6, 2) := by decide +kernel
theorem dX9_fires_83 : decode cX9_fires 83 = .ok (.invokevirtual 201, 3) := by decide +kernel
theorem dX9_fires_86 : decode cX9_fires 86 = .ok (.istore 7, 2) := by decide +kernel
theorem dX9_fires_88 : decode cX9_fires 88 = .ok (.iload 7, 2) := by decide +kernel
theorem dX9_fires_90 : decode cX9_fires 90 = .ok (.iload_n 1, 1) := by decide +kernel
theorem dX9_fires_91 : decode cX9_fires 91 = .ok (.if_icmp .le 7, 3) := by decide +kernel
theorem dX9_fires_94 : decode cX9_fires 94 = .ok (.iconst (-1), 1) := by decide +kernel
theorem dX9_fires_95 : decode cX9_fires 95 = .ok (.goto 7, 3) := by decide +kernel
theorem dX9_fires_98 : decode cX9_fires 98 = .ok (.aload_n 0, 1) := by decide +kernel
theorem dX9_fires_99 : decode cX9_fires 99 = .ok (.invokevirtual 204, 3) := by decide +kernel
theorem dX9_fires_102 : decode cX9_fires 102 = .ok (.istore 8, 2) := by decide +kernel
theorem dX9_fires_104 : decode cX9_fires 104 = .ok (.iload 8, 2) := by decide +kernel
theorem dX9_fires_106 : decode cX9_fires 106 = .ok (.iload 4, 2) := by decide +kernel
theorem dX9_fires_108 : decode cX9_fires 108 = .ok (.if_icmp .gt 22, 3) := by decide +kernel
theorem dX9_fires_111 : decode cX9_fires 111 = .ok (.iload 8, 2) := by decide +kernel
theorem dX9_fires_113 : decode cX9_fires 113 = .ok (.ifCond .lt 28, 3) := by decide +kernel
theorem dX9_fires_116 : decode cX9_fires 116 = .ok (.iload 8, 2) := by decide +kernel
theorem dX9_fires_118 : decode cX9_fires 118 = .ok (.iload 4, 2) := by decide +kernel
theorem dX9_fires_120 : decode cX9_fires 120 = .ok (.if_icmp .ne 21, 3) := by decide +kernel
theorem dX9_fires_123 : decode cX9_fires 123 = .ok (.iload 7, 2) := by decide +kernel
theorem dX9_fires_125 : decode cX9_fires 125 = .ok (.iload 5, 2) := by decide +kernel
theorem dX9_fires_127 : decode cX9_fires 127 = .ok (.if_icmp .ge 14, 3) := by decide +kernel
theorem dX9_fires_130 : decode cX9_fires 130 = .ok (.iload 6, 2) := by decide +kernel
theorem dX9_fires_132 : decode cX9_fires 132 = .ok (.istore_n 3, 1) := by decide +kernel
theorem dX9_fires_133 : decode cX9_fires 133 = .ok (.iload 8, 2) := by decide +kernel
theorem dX9_fires_135 : decode cX9_fires 135 = .ok (.istore 4, 2) := by decide +kernel
theorem dX9_fires_137 : decode cX9_fires 137 = .ok (.iload 7, 2) := by decide +kernel
theorem dX9_fires_139 : decode cX9_fires 139 = .ok (.istore 5, 2) := by decide +kernel
theorem dX9_fires_141 : decode cX9_fires 141 = .ok (.iinc 6 1, 3) := by decide +kernel
theorem dX9_fires_144 : decode cX9_fires 144 = .ok (.goto (-79), 3) := by decide +kernel
theorem dX9_fires_147 : decode cX9_fires 147 = .ok (.aload_n 0, 1) := by decide +kernel
theorem dX9_fires_148 : decode cX9_fires 148 = .ok (.invokevirtual 194, 3) := by decide +kernel
theorem dX9_fires_151 : decode cX9_fires 151 = .ok (.iload_n 2, 1) := by decide +kernel
theorem dX9_fires_152 : decode cX9_fires 152 = .ok (.ifCond .ne 8, 3) := by decide +kernel
theorem dX9_fires_155 : decode cX9_fires 155 = .ok (.iload 4, 2) := by decide +kernel
theorem dX9_fires_157 : decode cX9_fires 157 = .ok (.goto 14, 3) := by decide +kernel
theorem dX9_fires_160 : decode cX9_fires 160 = .ok (.iload_n 2, 1) := by decide +kernel
theorem dX9_fires_161 : decode cX9_fires 161 = .ok (.iconst 1, 1) := by decide +kernel
theorem dX9_fires_162 : decode cX9_fires 162 = .ok (.if_icmp .ne 8, 3) := by decide +kernel
theorem dX9_fires_165 : decode cX9_fires 165 = .ok (.iload 5, 2) := by decide +kernel
theorem dX9_fires_167 : decode cX9_fires 167 = .ok (.goto 4, 3) := by decide +kernel
theorem dX9_fires_170 : decode cX9_fires 170 = .ok (.iload_n 3, 1) := by decide +kernel
theorem dX9_fires_171 : decode cX9_fires 171 = .ok (.ireturn, 1) := by decide +kernel
theorem dX9_watch_0 : decode cX9_watch 0 = .ok (.iload_n 1, 1) := by decide +kernel
theorem dX9_watch_1 : decode cX9_watch 1 = .ok (.i2l, 1) := by decide +kernel
theorem dX9_watch_2 : decode cX9_watch 2 = .ok (.lconst 1, 1) := by decide +kernel
theorem dX9_watch_3 : decode cX9_watch 3 = .ok (.ldc2_w 207, 3) := by decide +kernel
theorem dX9_watch_6 : decode cX9_watch 6 = .ok (.invokestatic 65, 3) := by decide +kernel
theorem dX9_watch_9 : decode cX9_watch 9 = .ok (.ifCond .eq 13, 3) := by decide +kernel
theorem dX9_watch_12 : decode cX9_watch 12 = .ok (.iload_n 2, 1) := by decide +kernel
theorem dX9_watch_13 : decode cX9_watch 13 = .ok (.i2l, 1) := by decide +kernel
theorem dX9_watch_14 : decode cX9_watch 14 = .ok (.lconst 0, 1) := by decide +kernel
theorem dX9_watch_15 : decode cX9_watch 15 = .ok (.lconst 1, 1) := by decide +kernel
theorem dX9_watch_16 : decode cX9_watch 16 = .ok (.invokestatic 65, 3) := by decide +kernel
theorem dX9_watch_19 : decode cX9_watch 19 = .ok (.ifCond .ne 6, 3) := by decide +kernel
theorem dX9_watch_22 : decode cX9_watch 22 = .ok (.ldc 72, 2) := by decide +kernel
theorem dX9_watch_24 : decode cX9_watch 24 = .ok (.ireturn, 1) := by decide +kernel
theorem dX9_watch_25 : decode cX9_watch 25 = .ok (.aload_n 0, 1) := by decide +kernel
theorem dX9_watch_26 : decode cX9_watch 26 = .ok (.invokevirtual 184, 3) := by decide +kernel
theorem dX9_watch_29 : decode cX9_watch 29 = .ok (.iconst (-1), 1) := by decide +kernel
theorem dX9_watch_30 : decode cX9_watch 30 = .ok (.istore_n 3, 1) := by decide +kernel
theorem dX9_watch_31 : decode cX9_watch 31 = .ok (.iconst 0, 1) := by decide +kernel
theorem dX9_watch_32 : decode cX9_watch 32 = .ok (.istore 4, 2) := by decide +kernel
theorem dX9_watch_34 : decode cX9_watch 34 = .ok (.iconst 0, 1) := by decide +kernel
theorem dX9_watch_35 : decode cX9_watch 35 = .ok (.istore 5, 2) := by decide +kernel
theorem dX9_watch_37 : decode cX9_watch 37 = .ok (.iload 5, 2) := by decide +kernel
theorem dX9_watch_39 : decode cX9_watch 39 = .ok (.aload_n 0, 1) := by decide +kernel
theorem dX9_watch_40 : decode cX9_watch 40 = .ok (.getfield 7, 3) := by decide +kernel
theorem dX9_watch_43 : decode cX9_watch 43 = .ok (.iconst 1, 1) := by decide +kernel
theorem dX9_watch_44 : decode cX9_watch 44 = .ok (.iaload, 1) := by decide +kernel
theorem dX9_watch_45 : decode cX9_watch 45 = .ok (.if_icmp .ge 91, 3) := by decide +kernel
theorem dX9_watch_48 : decode cX9_watch 48 = .ok (.iconst 0, 1) := by decide +kernel
theorem dX9_watch_49 : decode cX9_watch 49 = .ok (.istore 6, 2) := by decide +kernel
theorem dX9_watch_51 : decode cX9_watch 51 = .ok (.iload 6, 2) := by decide +kernel
theorem dX9_watch_53 : decode cX9_watch 53 = .ok (.aload_n 0, 1) := by decide +kernel
theorem dX9_watch_54 : decode cX9_watch 54 = .ok (.getfield 7, 3) := by decide +kernel
theorem dX9_watch_57 : decode cX9_watch 57 = .ok (.iconst 1, 1) := by decide +kernel
theorem dX9_watch_58 : decode cX9_watch 58 = .ok (.iaload, 1) := by decide +kernel
theorem dX9_watch_59 : decode cX9_watch 59 = .ok (.if_icmp .ge 35, 3) := by decide +kernel
theorem dX9_watch_62 : decode cX9_watch 62 = .ok (.aload_n 0, 1) := by decide +kernel
theorem dX9_watch_63 : decode cX9_watch 63 = .ok (.getfield 7, 3) := by decide +kernel
theorem dX9_watch_66 : decode cX9_watch 66 = .ok (.bipush 48, 2) := by decide +kernel
theorem dX9_watch_68 : decode cX9_watch 68 = .ok (.iconst 5, 1) := by decide +kernel
theorem dX9_watch_69 : decode cX9_watch 69 = .ok (.iload 6, 2) := by decide +kernel
theorem dX9_watch_71 : decode cX9_watch 71 = .ok (.imul, 1) := by decide +kernel
theorem dX9_watch_72 : decode cX9_watch 72 = .ok (.iadd, 1) := by decide +kernel
theorem dX9_watch_73 : decode cX9_watch 73 = .ok (.iconst 4, 1) := by decide +kernel
theorem dX9_watch_74 : decode cX9_watch 74 = .ok (.iadd, 1) := by decide +kernel
theorem dX9_watch_75 : decode cX9_watch 75 = .ok (.iload 6, 2) := by decide +kernel
theorem dX9_watch_77 : decode cX9_watch 77 = .ok (.iload 5, 2) := by decide +kernel
theorem dX9_watch_79 : decode cX9_watch 79 = .ok (.if_icmp .ne 7, 3) := by decide +kernel
theorem dX9_watch_82 : decode cX9_watch 82 = .ok (.iconst 1, 1) := by decide +kernel
theorem dX9_watch_83 : decode cX9_watch 83 = .ok (.goto 4, 3) := by decide +kernel
theorem dX9_watch_86 : decode cX9_watch 86 = .ok (.iconst 0, 1) := by decide +kernel
theorem dX9_watch_87 : decode cX9_watch 87 = .ok (.iastore, 1) := by decide +kernel
theorem dX9_watch_88 : decode cX9_watch 88 = .ok (.iinc 6 1, 3) := by decide +kernel
theorem dX9_watch_91 : decode cX9_watch 91 = .ok (.goto (-40), 3) := by decide +kernel
theorem dX9_watch_94 : decode cX9_watch 94 = .ok (.aload_n 0, 1) := by decide +kernel
theorem dX9_watch_95 : decode cX9_watch 95 = .ok (.iload_n 1, 1) := by decide +kernel
theorem dX9_watch_96 : decode cX9_watch 96 = .ok (.invokevirtual 187, 3) := by decide +kernel
theorem dX9_watch_99 : decode cX9_watch 99 = .ok (.aload_n 0, 1) := by decide +kernel
theorem dX9_watch_100 : decode cX9_watch 100 = .ok (.getfield 7, 3) := by decide +kernel
theorem dX9_watch_103 : decode cX9_watch 103 = .ok (.bipush 8, 2) := by decide +kernel
theorem dX9_watch_105 : decode cX9_watch 105 = .ok (.iaload, 1) := by decide +kernel
theorem dX9_watch_106 : decode cX9_watch 106 = .ok (.istore 6, 2) := by decide +kernel
theorem dX9_watch_108 : decode cX9_watch 108 = .ok (.aload_n 0, 1) := by decide +kernel
theorem dX9_watch_109 : decode cX9_watch 109 = .ok (.invokevirtual 194, 3) := by decide +kernel
theorem dX9_watch_112 : decode cX9_watch 112 = .ok (.iload_n 3, 1) := by decide +kernel
theorem dX9_watch_113 : decode cX9_watch 113 = .ok (.ifCond .lt 10, 3) := by decide +kernel
theorem dX9_watch_116 : decode cX9_watch 116 = .ok (.iload 6, 2) := by decide +kernel
theorem dX9_watch_118 : decode cX9_watch 118 = .ok (.iload 4, 2) := by decide +kernel
theorem dX9_watch_120 : decode cX9_watch 120 = .ok (.if_icmp .ge 10, 3) := by decide +kernel
theorem dX9_watch_123 : decode cX9_watch 123 = .ok (.iload 5, 2) := by decide +kernel
theorem dX9_watch_125 : decode cX9_watch 125 = .ok (.istore_n 3, 1) := by decide +kernel
theorem dX9_watch_126 : decode cX9_watch 126 = .ok (.iload 6, 2) := by decide +kernel
theorem dX9_watch_128 : decode cX9_watch 128 = .ok (.istore 4, 2) := by decide +kernel
theorem dX9_watch_130 : decode cX9_watch 130 = .ok (.iinc 5 1, 3) := by decide +kernel
theorem dX9_watch_133 : decode cX9_watch 133 = .ok (.goto (-96), 3) := by decide +kernel
theorem dX9_watch_136 : decode cX9_watch 136 = .ok (.iload_n 3, 1) := by decide +kernel
theorem dX9_watch_137 : decode cX9_watch 137 = .ok (.ifCond .ge 8, 3) := by decide +kernel
theorem dX9_watch_140 : decode cX9_watch 140 = .ok (.ldc 64, 2) := by decide +kernel
theorem dX9_watch_142 : decode cX9_watch 142 = .ok (.goto 13, 3) := by decide +kernel
theorem dX9_watch_145 : decode cX9_watch 145 = .ok (.iload_n 2, 1) := by decide +kernel
theorem dX9_watch_146 : decode cX9_watch 146 = .ok (.ifCond .ne 7, 3) := by decide +kernel
theorem dX9_watch_149 : decode cX9_watch 149 = .ok (.iload_n 3, 1) := by decide +kernel
theorem dX9_watch_150 : decode cX9_watch 150 = .ok (.goto 5, 3) := by decide +kernel
theorem dX9_watch_153 : decode cX9_watch 153 = .ok (.iload 4, 2) := by decide +kernel
theorem dX9_watch_155 : decode cX9_watch 155 = .ok (.ireturn, 1) := by decide +kernel
theorem dX9_place_0 : decode cX9_place 0 = .ok (.aload_n 0, 1) := by decide +kernel
theorem dX9_place_1 : decode cX9_place 1 = .ok (.iload_n 1, 1) := by decide +kernel
theorem dX9_place_2 : decode cX9_place 2 = .ok (.invokevirtual 130, 3) := by decide +kernel
theorem dX9_place_5 : decode cX9_place 5 = .ok (.ifCond .eq 15, 3) := by decide +kernel
theorem dX9_place_8 : decode cX9_place 8 = .ok (.iload_n 2, 1) := by decide +kernel
theorem dX9_place_9 : decode cX9_place 9 = .ok (.i2l, 1) := by decide +kernel
theorem dX9_place_10 : decode cX9_place 10 = .ok (.lconst 1, 1) := by decide +kernel
theorem dX9_place_11 : decode cX9_place 11 = .ok (.ldc2_w 207, 3) := by decide +kernel
theorem dX9_place_14 : decode cX9_place 14 = .ok (.invokestatic 65, 3) := by decide +kernel
theorem dX9_place_17 : decode cX9_place 17 = .ok (.ifCond .ne 6, 3) := by decide +kernel
theorem dX9_place_20 : decode cX9_place 20 = .ok (.ldc 72, 2) := by decide +kernel
theorem dX9_place_22 : decode cX9_place 22 = .ok (.ireturn, 1) := by decide +kernel
theorem dX9_place_23 : decode cX9_place 23 = .ok (.aload_n 0, 1) := by decide +kernel
theorem dX9_place_24 : decode cX9_place 24 = .ok (.invokevirtual 184, 3) := by decide +kernel
theorem dX9_place_27 : decode cX9_place 27 = .ok (.iconst (-1), 1) := by decide +kernel
theorem dX9_place_28 : decode cX9_place 28 = .ok (.istore_n 3, 1) := by decide +kernel
theorem dX9_place_29 : decode cX9_place 29 = .ok (.iconst 0, 1) := by decide +kernel
theorem dX9_place_30 : decode cX9_place 30 = .ok (.istore 4, 2) := by decide +kernel
theorem dX9_place_32 : decode cX9_place 32 = .ok (.iconst 0, 1) := by decide +kernel
theorem dX9_place_33 : decode cX9_place 33 = .ok (.istore 5, 2) := by decide +kernel
theorem dX9_place_35 : decode cX9_place 35 = .ok (.iload 5, 2) := by decide +kernel
theorem dX9_place_37 : decode cX9_place 37 = .ok (.aload_n 0, 1) := by decide +kernel
theorem dX9_place_38 : decode cX9_place 38 = .ok (.getfield 7, 3) := by decide +kernel
theorem dX9_place_41 : decode cX9_place 41 = .ok (.iconst 0, 1) := by decide +kernel
theorem dX9_place_42 : decode cX9_place 42 = .ok (.iaload, 1) := by decide +kernel
theorem dX9_place_43 : decode cX9_place 43 = .ok (.if_icmp .ge 74, 3) := by decide +kernel
theorem dX9_place_46 : decode cX9_place 46 = .ok (.aload_n 0, 1) := by decide +kernel
theorem dX9_place_47 : decode cX9_place 47 = .ok (.getfield 7, 3) := by decide +kernel
theorem dX9_place_50 : decode cX9_place 50 = .ok (.bipush 48, 2) := by decide +kernel
theorem dX9_place_52 : decode cX9_place 52 = .ok (.iconst 5, 1) := by decide +kernel
theorem dX9_place_53 : decode cX9_place 53 = .ok (.iload_n 1, 1) := by decide +kernel
theorem dX9_place_54 : decode cX9_place 54 = .ok (.imul, 1) := by decide +kernel
theorem dX9_place_55 : decode cX9_place 55 = .ok (.iadd, 1) := by decide +kernel
theorem dX9_place_56 : decode cX9_place 56 = .ok (.iconst 1, 1) := by decide +kernel
theorem dX9_place_57 : decode cX9_place 57 = .ok (.iadd, 1) := by decide +kernel
theorem dX9_place_58 : decode cX9_place 58 = .ok (.iload 5, 2) := by decide +kernel
theorem dX9_place_60 : decode cX9_place 60 = .ok (.iastore, 1) := by decide +kernel
theorem dX9_place_61 : decode cX9_place 61 = .ok (.aload_n 0, 1) := by decide +kernel
theorem dX9_place_62 : decode cX9_place 62 = .ok (.getfield 7, 3) := by decide +kernel
theorem dX9_place_65 : decode cX9_place 65 = .ok (.bipush 48, 2) := by decide +kernel
theorem dX9_place_67 : decode cX9_place 67 = .ok (.iconst 5, 1) := by decide +kernel
theorem dX9_place_68 : decode cX9_place 68 = .ok (.iload_n 1, 1) := by decide +kernel
theorem dX9_place_69 : decode cX9_place 69 = .ok (.imul, 1) := by decide +kernel
theorem dX9_place_70 : decode cX9_place 70 = .ok (.iadd, 1) := by decide +kernel
theorem dX9_place_71 : decode cX9_place 71 = .ok (.iconst 4, 1) := by decide +kernel
theorem dX9_place_72 : decode cX9_place 72 = .ok (.iadd, 1) := by decide +kernel
theorem dX9_place_73 : decode cX9_place 73 = .ok (.iconst 1, 1) := by decide +kernel
theorem dX9_place_74 : decode cX9_place 74 = .ok (.iastore, 1) := by decide +kernel
theorem dX9_place_75 : decode cX9_place 75 = .ok (.aload_n 0, 1) := by decide +kernel
theorem dX9_place_76 : decode cX9_place 76 = .ok (.iload_n 2, 1) := by decide +kernel
theorem dX9_place_77 : decode cX9_place 77 = .ok (.invokevirtual 187, 3) := by decide +kernel
theorem dX9_place_80 : decode cX9_place 80 = .ok (.aload_n 0, 1) := by decide +kernel
theorem dX9_place_81 : decode cX9_place 81 = .ok (.getfield 7, 3) := by decide +kernel
theorem dX9_place_84 : decode cX9_place 84 = .ok (.bipush 8, 2) := by decide +kernel
theorem dX9_place_86 : decode cX9_place 86 = .ok (.iaload, 1) := by decide +kernel
theorem dX9_place_87 : decode cX9_place 87 = .ok (.istore 6, 2) := by decide +kernel
theorem dX9_place_89 : decode cX9_place 89 = .ok (.aload_n 0, 1) := by decide +kernel
theorem dX9_place_90 : decode cX9_place 90 = .ok (.invokevirtual 194, 3) := by decide +kernel
theorem dX9_place_93 : decode cX9_place 93 = .ok (.iload_n 3, 1) := by decide +kernel
theorem dX9_place_94 : decode cX9_place 94 = .ok (.ifCond .lt 10, 3) := by decide +kernel
theorem dX9_place_97 : decode cX9_place 97 = .ok (.iload 6, 2) := by decide +kernel
theorem dX9_place_99 : decode cX9_place 99 = .ok (.iload 4, 2) := by decide +kernel
theorem dX9_place_101 : decode cX9_place 101 = .ok (.if_icmp .ge 10, 3) := by decide +kernel
theorem dX9_place_104 : decode cX9_place 104 = .ok (.iload 5, 2) := by decide +kernel
theorem dX9_place_106 : decode cX9_place 106 = .ok (.istore_n 3, 1) := by decide +kernel
theorem dX9_place_107 : decode cX9_place 107 = .ok (.iload 6, 2) := by decide +kernel
theorem dX9_place_109 : decode cX9_place 109 = .ok (.istore 4, 2) := by decide +kernel
theorem dX9_place_111 : decode cX9_place 111 = .ok (.iinc 5 1, 3) := by decide +kernel
theorem dX9_place_114 : decode cX9_place 114 = .ok (.goto (-79), 3) := by decide +kernel
theorem dX9_place_117 : decode cX9_place 117 = .ok (.iload_n 3, 1) := by decide +kernel
theorem dX9_place_118 : decode cX9_place 118 = .ok (.invokestatic 179, 3) := by decide +kernel
theorem dX9_place_121 : decode cX9_place 121 = .ok (.ireturn, 1) := by decide +kernel
theorem dX9_feed_0 : decode cX9_feed 0 = .ok (.aload_n 0, 1) := by decide +kernel
theorem dX9_feed_1 : decode cX9_feed 1 = .ok (.getfield 209, 3) := by decide +kernel
theorem dX9_feed_4 : decode cX9_feed 4 = .ok (.bipush 12, 2) := by decide +kernel
theorem dX9_feed_6 : decode cX9_feed 6 = .ok (.iadd, 1) := by decide +kernel
theorem dX9_feed_7 : decode cX9_feed 7 = .ok (.bipush 96, 2) := by decide +kernel
theorem dX9_feed_9 : decode cX9_feed 9 = .ok (.if_icmp .le 6, 3) := by decide +kernel
theorem dX9_feed_12 : decode cX9_feed 12 = .ok (.ldc 73, 2) := by decide +kernel
theorem dX9_feed_14 : decode cX9_feed 14 = .ok (.ireturn, 1) := by decide +kernel
theorem dX9_feed_15 : decode cX9_feed 15 = .ok (.iconst 0, 1) := by decide +kernel
theorem dX9_feed_16 : decode cX9_feed 16 = .ok (.istore 4, 2) := by decide +kernel
theorem dX9_feed_18 : decode cX9_feed 18 = .ok (.iload 4, 2) := by decide +kernel
theorem dX9_feed_20 : decode cX9_feed 20 = .ok (.bipush 12, 2) := by decide +kernel
theorem dX9_feed_22 : decode cX9_feed 22 = .ok (.if_icmp .ge 69, 3) := by decide +kernel
theorem dX9_feed_25 : decode cX9_feed 25 = .ok (.iload 4, 2) := by decide +kernel
theorem dX9_feed_27 : decode cX9_feed 27 = .ok (.iconst 4, 1) := by decide +kernel
theorem dX9_feed_28 : decode cX9_feed 28 = .ok (.if_icmp .ge 7, 3) := by decide +kernel
theorem dX9_feed_31 : decode cX9_feed 31 = .ok (.iload_n 1, 1) := by decide +kernel
theorem dX9_feed_32 : decode cX9_feed 32 = .ok (.goto 15, 3) := by decide +kernel
theorem dX9_feed_35 : decode cX9_feed 35 = .ok (.iload 4, 2) := by decide +kernel
theorem dX9_feed_37 : decode cX9_feed 37 = .ok (.bipush 8, 2) := by decide +kernel
theorem dX9_feed_39 : decode cX9_feed 39 = .ok (.if_icmp .ge 7, 3) := by decide +kernel
theorem dX9_feed_42 : decode cX9_feed 42 = .ok (.iload_n 2, 1) := by decide +kernel
theorem dX9_feed_43 : decode cX9_feed 43 = .ok (.goto 4, 3) := by decide +kernel
theorem dX9_feed_46 : decode cX9_feed 46 = .ok (.iload_n 3, 1) := by decide +kernel
theorem dX9_feed_47 : decode cX9_feed 47 = .ok (.istore 5, 2) := by decide +kernel
theorem dX9_feed_49 : decode cX9_feed 49 = .ok (.aload_n 0, 1) := by decide +kernel
theorem dX9_feed_50 : decode cX9_feed 50 = .ok (.getfield 46, 3) := by decide +kernel
theorem dX9_feed_53 : decode cX9_feed 53 = .ok (.aload_n 0, 1) := by decide +kernel
theorem dX9_feed_54 : decode cX9_feed 54 = .ok (.getfield 209, 3) := by decide +kernel
theorem dX9_feed_57 : decode cX9_feed 57 = .ok (.iload 5, 2) := by decide +kernel
theorem dX9_feed_59 : decode cX9_feed 59 = .ok (.bipush 24, 2) := by decide +kernel
theorem dX9_feed_61 : decode cX9_feed 61 = .ok (.bipush 8, 2) := by decide +kernel
theorem dX9_feed_63 : decode cX9_feed 63 = .ok (.iload 4, 2) := by decide +kernel
theorem dX9_feed_65 : decode cX9_feed 65 = .ok (.iconst 4, 1) := by decide +kernel
theorem dX9_feed_66 : decode cX9_feed 66 = .ok (.irem, 1) := by decide +kernel
theorem dX9_feed_67 : decode cX9_feed 67 = .ok (.imul, 1) := by decide +kernel
theorem dX9_feed_68 : decode cX9_feed 68 = .ok (.isub, 1) := by decide +kernel
theorem dX9_feed_69 : decode cX9_feed 69 = .ok (.ishr, 1) := by decide +kernel
theorem dX9_feed_70 : decode cX9_feed 70 = .ok (.sipush 255, 3) := by decide +kernel
theorem dX9_feed_73 : decode cX9_feed 73 = .ok (.iand, 1) := by decide +kernel
theorem dX9_feed_74 : decode cX9_feed 74 = .ok (.iastore, 1) := by decide +kernel
theorem dX9_feed_75 : decode cX9_feed 75 = .ok (.aload_n 0, 1) := by decide +kernel
theorem dX9_feed_76 : decode cX9_feed 76 = .ok (.dup, 1) := by decide +kernel
theorem dX9_feed_77 : decode cX9_feed 77 = .ok (.getfield 209, 3) := by decide +kernel
theorem dX9_feed_80 : decode cX9_feed 80 = .ok (.iconst 1, 1) := by decide +kernel
theorem dX9_feed_81 : decode cX9_feed 81 = .ok (.iadd, 1) := by decide +kernel
theorem dX9_feed_82 : decode cX9_feed 82 = .ok (.putfield 209, 3) := by decide +kernel
theorem dX9_feed_85 : decode cX9_feed 85 = .ok (.iinc 4 1, 3) := by decide +kernel
theorem dX9_feed_88 : decode cX9_feed 88 = .ok (.goto (-70), 3) := by decide +kernel
theorem dX9_feed_91 : decode cX9_feed 91 = .ok (.aload_n 0, 1) := by decide +kernel
theorem dX9_feed_92 : decode cX9_feed 92 = .ok (.getfield 209, 3) := by decide +kernel
theorem dX9_feed_95 : decode cX9_feed 95 = .ok (.ireturn, 1) := by decide +kernel
theorem dX9_trim_0 : decode cX9_trim 0 = .ok (.iload_n 1, 1) := by decide +kernel
theorem dX9_trim_1 : decode cX9_trim 1 = .ok (.i2l, 1) := by decide +kernel
theorem dX9_trim_2 : decode cX9_trim 2 = .ok (.lconst 0, 1) := by decide +kernel
theorem dX9_trim_3 : decode cX9_trim 3 = .ok (.aload_n 0, 1) := by decide +kernel
theorem dX9_trim_4 : decode cX9_trim 4 = .ok (.getfield 209, 3) := by decide +kernel
theorem dX9_trim_7 : decode cX9_trim 7 = .ok (.i2l, 1) := by decide +kernel
theorem dX9_trim_8 : decode cX9_trim 8 = .ok (.invokestatic 65, 3) := by decide +kernel
theorem dX9_trim_11 : decode cX9_trim 11 = .ok (.ifCond .ne 6, 3) := by decide +kernel
theorem dX9_trim_14 : decode cX9_trim 14 = .ok (.ldc 72, 2) := by decide +kernel
theorem dX9_trim_16 : decode cX9_trim 16 = .ok (.ireturn, 1) := by decide +kernel
theorem dX9_trim_17 : decode cX9_trim 17 = .ok (.aload_n 0, 1) := by decide +kernel
theorem dX9_trim_18 : decode cX9_trim 18 = .ok (.iload_n 1, 1) := by decide +kernel
theorem dX9_trim_19 : decode cX9_trim 19 = .ok (.putfield 209, 3) := by decide +kernel
theorem dX9_trim_22 : decode cX9_trim 22 = .ok (.iload_n 1, 1) := by decide +kernel
theorem dX9_trim_23 : decode cX9_trim 23 = .ok (.ireturn, 1) := by decide +kernel
theorem dX9_isLetter_0 : decode cX9_isLetter 0 = .ok (.iload_n 1, 1) := by decide +kernel
theorem dX9_isLetter_1 : decode cX9_isLetter 1 = .ok (.aload_n 0, 1) := by decide +kernel
theorem dX9_isLetter_2 : decode cX9_isLetter 2 = .ok (.getfield 209, 3) := by decide +kernel
theorem dX9_isLetter_5 : decode cX9_isLetter 5 = .ok (.if_icmp .ge 26, 3) := by decide +kernel
theorem dX9_isLetter_8 : decode cX9_isLetter 8 = .ok (.aload_n 0, 1) := by decide +kernel
theorem dX9_isLetter_9 : decode cX9_isLetter 9 = .ok (.getfield 46, 3) := by decide +kernel
theorem dX9_isLetter_12 : decode cX9_isLetter 12 = .ok (.iload_n 1, 1) := by decide +kernel
theorem dX9_isLetter_13 : decode cX9_isLetter 13 = .ok (.iaload, 1) := by decide +kernel
theorem dX9_isLetter_14 : decode cX9_isLetter 14 = .ok (.i2l, 1) := by decide +kernel
theorem dX9_isLetter_15 : decode cX9_isLetter 15 = .ok (.ldc2_w 212, 3) := by decide +kernel
theorem dX9_isLetter_18 : decode cX9_isLetter 18 = .ok (.ldc2_w 214, 3) := by decide +kernel
theorem dX9_isLetter_21 : decode cX9_isLetter 21 = .ok (.invokestatic 65, 3) := by decide +kernel
theorem dX9_isLetter_24 : decode cX9_isLetter 24 = .ok (.ifCond .eq 7, 3) := by decide +kernel
theorem dX9_isLetter_27 : decode cX9_isLetter 27 = .ok (.iconst 1, 1) := by decide +kernel
theorem dX9_isLetter_28 : decode cX9_isLetter 28 = .ok (.goto 4, 3) := by decide +kernel
theorem dX9_isLetter_31 : decode cX9_isLetter 31 = .ok (.iconst 0, 1) := by decide +kernel
theorem dX9_isLetter_32 : decode cX9_isLetter 32 = .ok (.ireturn, 1) := by decide +kernel
theorem dX9_isDigit_0 : decode cX9_isDigit 0 = .ok (.iload_n 1, 1) := by decide +kernel
theorem dX9_isDigit_1 : decode cX9_isDigit 1 = .ok (.aload_n 0, 1) := by decide +kernel
theorem dX9_isDigit_2 : decode cX9_isDigit 2 = .ok (.getfield 209, 3) := by decide +kernel
theorem dX9_isDigit_5 : decode cX9_isDigit 5 = .ok (.if_icmp .ge 26, 3) := by decide +kernel
theorem dX9_isDigit_8 : decode cX9_isDigit 8 = .ok (.aload_n 0, 1) := by decide +kernel
theorem dX9_isDigit_9 : decode cX9_isDigit 9 = .ok (.getfield 46, 3) := by decide +kernel
theorem dX9_isDigit_12 : decode cX9_isDigit 12 = .ok (.iload_n 1, 1) := by decide +kernel
theorem dX9_isDigit_13 : decode cX9_isDigit 13 = .ok (.iaload, 1) := by decide +kernel
theorem dX9_isDigit_14 : decode cX9_isDigit 14 = .ok (.i2l, 1) := by decide +kernel
theorem dX9_isDigit_15 : decode cX9_isDigit 15 = .ok (.ldc2_w 216, 3) := by decide +kernel
theorem dX9_isDigit_18 : decode cX9_isDigit 18 = .ok (.ldc2_w 218, 3) := by decide +kernel
theorem dX9_isDigit_21 : decode cX9_isDigit 21 = .ok (.invokestatic 65, 3) := by decide +kernel
theorem dX9_isDigit_24 : decode cX9_isDigit 24 = .ok (.ifCond .eq 7, 3) := by decide +kernel
theorem dX9_isDigit_27 : decode cX9_isDigit 27 = .ok (.iconst 1, 1) := by decide +kernel
theorem dX9_isDigit_28 : decode cX9_isDigit 28 = .ok (.goto 4, 3) := by decide +kernel
theorem dX9_isDigit_31 : decode cX9_isDigit 31 = .ok (.iconst 0, 1) := by decide +kernel
theorem dX9_isDigit_32 : decode cX9_isDigit 32 = .ok (.ireturn, 1) := by decide +kernel
theorem dX9_nextToken_0 : decode cX9_nextToken 0 = .ok (.aload_n 0, 1) := by decide +kernel
theorem dX9_nextToken_1 : decode cX9_nextToken 1 = .ok (.getfield 220, 3) := by decide +kernel
theorem dX9_nextToken_4 : decode cX9_nextToken 4 = .ok (.ifCond .le 23, 3) := by decide +kernel
theorem dX9_nextToken_7 : decode cX9_nextToken 7 = .ok (.aload_n 0, 1) := by decide +kernel
theorem dX9_nextToken_8 : decode cX9_nextToken 8 = .ok (.getfield 223, 3) := by decide +kernel
theorem dX9_nextToken_11 : decode cX9_nextToken 11 = .ok (.iconst 1, 1) := by decide +kernel
theorem dX9_nextToken_12 : decode cX9_nextToken 12 = .ok (.if_icmp .eq 11, 3) := by decide +kernel
theorem dX9_nextToken_15 : decode cX9_nextToken 15 = .ok (.aload_n 0, 1) := by decide +kernel
theorem dX9_nextToken_16 : decode cX9_nextToken 16 = .ok (.getfield 223, 3) := by decide +kernel
theorem dX9_nextToken_19 : decode cX9_nextToken 19 = .ok (.iconst 2, 1) := by decide +kernel
theorem dX9_nextToken_20 : decode cX9_nextToken 20 = .ok (.if_icmp .ne 7, 3) := by decide +kernel
theorem dX9_nextToken_23 : decode cX9_nextToken 23 = .ok (.iconst 1, 1) := by decide +kernel
theorem dX9_nextToken_24 : decode cX9_nextToken 24 = .ok (.goto 4, 3) := by decide +kernel
theorem dX9_nextToken_27 : decode cX9_nextToken 27 = .ok (.iconst 0, 1) := by decide +kernel
theorem dX9_nextToken_28 : decode cX9_nextToken 28 = .ok (.istore_n 1, 1) := by decide +kernel
theorem dX9_nextToken_29 : decode cX9_nextToken 29 = .ok (.aload_n 0, 1) := by decide +kernel
theorem dX9_nextToken_30 : decode cX9_nextToken 30 = .ok (.getfield 220, 3) := by decide +kernel
theorem dX9_nextToken_33 : decode cX9_nextToken 33 = .ok (.istore_n 2, 1) := by decide +kernel
theorem dX9_nextToken_34 : decode cX9_nextToken 34 = .ok (.aload_n 0, 1) := by decide +kernel
theorem dX9_nextToken_35 : decode cX9_nextToken 35 = .ok (.getfield 220, 3) := by decide +kernel
theorem dX9_nextToken_38 : decode cX9_nextToken 38 = .ok (.aload_n 0, 1) := by decide +kernel
theorem dX9_nextToken_39 : decode cX9_nextToken 39 = .ok (.getfield 209, 3) := by decide +kernel
theorem dX9_nextToken_42 : decode cX9_nextToken 42 = .ok (.if_icmp .ge 30, 3) := by decide +kernel
theorem dX9_nextToken_45 : decode cX9_nextToken 45 = .ok (.aload_n 0, 1) := by decide +kernel
theorem dX9_nextToken_46 : decode cX9_nextToken 46 = .ok (.getfield 46, 3) := by decide +kernel
theorem dX9_nextToken_49 : decode cX9_nextToken 49 = .ok (.aload_n 0, 1) := by decide +kernel
theorem dX9_nextToken_50 : decode cX9_nextToken 50 = .ok (.getfield 220, 3) := by decide +kernel
theorem dX9_nextToken_53 : decode cX9_nextToken 53 = .ok (.iaload, 1) := by decide +kernel
theorem dX9_nextToken_54 : decode cX9_nextToken 54 = .ok (.bipush 32, 2) := by decide +kernel
theorem dX9_nextToken_56 : decode cX9_nextToken 56 = .ok (.if_icmp .ne 16, 3) := by decide +kernel
theorem dX9_nextToken_59 : decode cX9_nextToken 59 = .ok (.aload_n 0, 1) := by decide +kernel
theorem dX9_nextToken_60 : decode cX9_nextToken 60 = .ok (.dup, 1) := by decide +kernel
theorem dX9_nextToken_61 : decode cX9_nextToken 61 = .ok (.getfield 220, 3) := by decide +kernel
theorem dX9_nextToken_64 : decode cX9_nextToken 64 = .ok (.iconst 1, 1) := by decide +kernel
theorem dX9_nextToken_65 : decode cX9_nextToken 65 = .ok (.iadd, 1) := by decide +kernel
theorem dX9_nextToken_66 : decode cX9_nextToken 66 = .ok (.putfield 220, 3) := by decide +kernel
theorem dX9_nextToken_69 : decode cX9_nextToken 69 = .ok (.goto (-35), 3) := by decide +kernel
theorem dX9_nextToken_72 : decode cX9_nextToken 72 = .ok (.iload_n 1, 1) := by decide +kernel
theorem dX9_nextToken_73 : decode cX9_nextToken 73 = .ok (.ifCond .eq 15, 3) := by decide +kernel
theorem dX9_nextToken_76 : decode cX9_nextToken 76 = .ok (.iload_n 2, 1) := by decide +kernel
theorem dX9_nextToken_77 : decode cX9_nextToken 77 = .ok (.aload_n 0, 1) := by decide +kernel
theorem dX9_nextToken_78 : decode cX9_nextToken 78 = .ok (.getfield 220, 3) := by decide +kernel
theorem dX9_nextToken_81 : decode cX9_nextToken 81 = .ok (.if_icmp .ne 7, 3) := by decide +kernel
theorem dX9_nextToken_84 : decode cX9_nextToken 84 = .ok (.iconst 1, 1) := by decide +kernel
theorem dX9_nextToken_85 : decode cX9_nextToken 85 = .ok (.goto 4, 3) := by decide +kernel
theorem dX9_nextToken_88 : decode cX9_nextToken 88 = .ok (.iconst 0, 1) := by decide +kernel
theorem dX9_nextToken_89 : decode cX9_nextToken 89 = .ok (.istore_n 1, 1) := by decide +kernel
theorem dX9_nextToken_90 : decode cX9_nextToken 90 = .ok (.aload_n 0, 1) := by decide +kernel
theorem dX9_nextToken_91 : decode cX9_nextToken 91 = .ok (.aload_n 0, 1) := by decide +kernel
theorem dX9_nextToken_92 : decode cX9_nextToken 92 = .ok (.getfield 220, 3) := by decide +kernel
theorem dX9_nextToken_95 : decode cX9_nextToken 95 = .ok (.putfield 226, 3) := by decide +kernel
theorem dX9_nextToken_98 : decode cX9_nextToken 98 = .ok (.aload_n 0, 1) := by decide +kernel
theorem dX9_nextToken_99 : decode cX9_nextToken 99 = .ok (.getfield 226, 3) := by decide +kernel
theorem dX9_nextToken_102 : decode cX9_nextToken 102 = .ok (.aload_n 0, 1) := by decide +kernel
theorem dX9_nextToken_103 : decode cX9_nextToken 103 = .ok (.getfield 209, 3) := by decide +kernel
theorem dX9_nextToken_106 : decode cX9_nextToken 106 = .ok (.if_icmp .ne 11, 3) := by decide +kernel
theorem dX9_nextToken_109 : decode cX9_nextToken 109 = .ok (.aload_n 0, 1) := by decide +kernel
theorem dX9_nextToken_110 : decode cX9_nextToken 110 = .ok (.iconst 0, 1) := by decide +kernel
theorem dX9_nextToken_111 : decode cX9_nextToken 111 = .ok (.putfield 223, 3) := by decide +kernel
theorem dX9_nextToken_114 : decode cX9_nextToken 114 = .ok (.goto 225, 3) := by decide +kernel
theorem dX9_nextToken_117 : decode cX9_nextToken 117 = .ok (.aload_n 0, 1) := by decide +kernel
theorem dX9_nextToken_118 : decode cX9_nextToken 118 = .ok (.aload_n 0, 1) := by decide +kernel
theorem dX9_nextToken_119 : decode cX9_nextToken 119 = .ok (.getfield 226, 3) := by decide +kernel
theorem dX9_nextToken_122 : decode cX9_nextToken 122 = .ok (.invokevirtual 229, 3) := by decide +kernel
theorem dX9_nextToken_125 : decode cX9_nextToken 125 = .ok (.ifCond .eq 73, 3) := by decide +kernel
theorem dX9_nextToken_128 : decode cX9_nextToken 128 = .ok (.aload_n 0, 1) := by decide +kernel
theorem dX9_nextToken_129 : decode cX9_nextToken 129 = .ok (.aload_n 0, 1) := by decide +kernel
theorem dX9_nextToken_130 : decode cX9_nextToken 130 = .ok (.getfield 220, 3) := by decide +kernel
theorem dX9_nextToken_133 : decode cX9_nextToken 133 = .ok (.invokevirtual 229, 3) := by decide +kernel
theorem dX9_nextToken_136 : decode cX9_nextToken 136 = .ok (.ifCond .eq 16, 3) := by decide +kernel
theorem dX9_nextToken_139 : decode cX9_nextToken 139 = .ok (.aload_n 0, 1) := by decide +kernel
theorem dX9_nextToken_140 : decode cX9_nextToken 140 = .ok (.dup, 1) := by decide +kernel
theorem dX9_nextToken_141 : decode cX9_nextToken 141 = .ok (.getfield 220, 3) := by decide +kernel
theorem dX9_nextToken_144 : decode cX9_nextToken 144 = .ok (.iconst 1, 1) := by decide +kernel
theorem dX9_nextToken_145 : decode cX9_nextToken 145 = .ok (.iadd, 1) := by decide +kernel
theorem dX9_nextToken_146 : decode cX9_nextToken 146 = .ok (.putfield 220, 3) := by decide +kernel
theorem dX9_nextToken_149 : decode cX9_nextToken 149 = .ok (.goto (-21), 3) := by decide +kernel
theorem dX9_nextToken_152 : decode cX9_nextToken 152 = .ok (.aload_n 0, 1) := by decide +kernel
theorem dX9_nextToken_153 : decode cX9_nextToken 153 = .ok (.iload_n 1, 1) := by decide +kernel
theorem dX9_nextToken_154 : decode cX9_nextToken 154 = .ok (.ifCond .eq 7, 3) := by decide +kernel
theorem dX9_nextToken_157 : decode cX9_nextToken 157 = .ok (.iconst 4, 1) := by decide +kernel
theorem dX9_nextToken_158 : decode cX9_nextToken 158 = .ok (.goto 4, 3) := by decide +kernel
theorem dX9_nextToken_161 : decode cX9_nextToken 161 = .ok (.iconst 1, 1) := by decide +kernel
theorem dX9_nextToken_162 : decode cX9_nextToken 162 = .ok (.putfield 223, 3) := by decide +kernel
theorem dX9_nextToken_165 : decode cX9_nextToken 165 = .ok (.aload_n 0, 1) := by decide +kernel
theorem dX9_nextToken_166 : decode cX9_nextToken 166 = .ok (.aload_n 0, 1) := by decide +kernel
theorem dX9_nextToken_167 : decode cX9_nextToken 167 = .ok (.getfield 220, 3) := by decide +kernel
theorem dX9_nextToken_170 : decode cX9_nextToken 170 = .ok (.aload_n 0, 1) := by decide +kernel
theorem dX9_nextToken_171 : decode cX9_nextToken 171 = .ok (.getfield 226, 3) := by decide +kernel
theorem dX9_nextToken_174 : decode cX9_nextToken 174 = .ok (.isub, 1) := by decide +kernel
theorem dX9_nextToken_175 : decode cX9_nextToken 175 = .ok (.iconst 1, 1) := by decide +kernel
theorem dX9_nextToken_176 : decode cX9_nextToken 176 = .ok (.if_icmp .ne 15, 3) := by decide +kernel
theorem dX9_nextToken_179 : decode cX9_nextToken 179 = .ok (.aload_n 0, 1) := by decide +kernel
theorem dX9_nextToken_180 : decode cX9_nextToken 180 = .ok (.getfield 46, 3) := by decide +kernel
theorem dX9_nextToken_183 : decode cX9_nextToken 183 = .ok (.aload_n 0, 1) := by decide +kernel
theorem dX9_nextToken_184 : decode cX9_nextToken 184 = .ok (.getfield 226, 3) := by decide +kernel
theorem dX9_nextToken_187 : decode cX9_nextToken 187 = .ok (.iaload, 1) := by decide +kernel
theorem dX9_nextToken_188 : decode cX9_nextToken 188 = .ok (.goto 4, 3) := by decide +kernel
theorem dX9_nextToken_191 : decode cX9_nextToken 191 = .ok (.iconst 0, 1) := by decide +kernel
theorem dX9_nextToken_192 : decode cX9_nextToken 192 = .ok (.putfield 232, 3) := by decide +kernel
theorem dX9_nextToken_195 : decode cX9_nextToken 195 = .ok (.goto 144, 3) := by decide +kernel
theorem dX9_nextToken_198 : decode cX9_nextToken 198 = .ok (.aload_n 0, 1) := by decide +kernel
theorem dX9_nextToken_199 : decode cX9_nextToken 199 = .ok (.aload_n 0, 1) := by decide +kernel
theorem dX9_nextToken_200 : decode cX9_nextToken 200 = .ok (.getfield 226, 3) := by decide +kernel
theorem dX9_nextToken_203 : decode cX9_nextToken 203 = .ok (.invokevirtual 235, 3) := by decide +kernel
theorem dX9_nextToken_206 : decode cX9_nextToken 206 = .ok (.ifCond .eq 105, 3) := by decide +kernel
theorem dX9_nextToken_209 : decode cX9_nextToken 209 = .ok (.aload_n 0, 1) := by decide +kernel
theorem dX9_nextToken_210 : decode cX9_nextToken 210 = .ok (.iconst 0, 1) := by decide +kernel
theorem dX9_nextToken_211 : decode cX9_nextToken 211 = .ok (.putfield 238, 3) := by decide +kernel
theorem dX9_nextToken_214 : decode cX9_nextToken 214 = .ok (.aload_n 0, 1) := by decide +kernel
theorem dX9_nextToken_215 : decode cX9_nextToken 215 = .ok (.aload_n 0, 1) := by decide +kernel
theorem dX9_nextToken_216 : decode cX9_nextToken 216 = .ok (.getfield 220, 3) := by decide +kernel
theorem dX9_nextToken_219 : decode cX9_nextToken 219 = .ok (.invokevirtual 235, 3) := by decide +kernel
theorem dX9_nextToken_222 : decode cX9_nextToken 222 = .ok (.ifCond .eq 60, 3) := by decide +kernel
theorem dX9_nextToken_225 : decode cX9_nextToken 225 = .ok (.aload_n 0, 1) := by decide +kernel
theorem dX9_nextToken_226 : decode cX9_nextToken 226 = .ok (.aload_n 0, 1) := by decide +kernel
theorem dX9_nextToken_227 : decode cX9_nextToken 227 = .ok (.getfield 220, 3) := by decide +kernel
theorem dX9_nextToken_230 : decode cX9_nextToken 230 = .ok (.aload_n 0, 1) := by decide +kernel
theorem dX9_nextToken_231 : decode cX9_nextToken 231 = .ok (.getfield 226, 3) := by decide +kernel
theorem dX9_nextToken_234 : decode cX9_nextToken 234 = .ok (.isub, 1) := by decide +kernel
theorem dX9_nextToken_235 : decode cX9_nextToken 235 = .ok (.iconst 4, 1) := by decide +kernel
theorem dX9_nextToken_236 : decode cX9_nextToken 236 = .ok (.if_icmp .ge 26, 3) := by decide +kernel
theorem dX9_nextToken_239 : decode cX9_nextToken 239 = .ok (.bipush 10, 2) := by decide +kernel
theorem dX9_nextToken_241 : decode cX9_nextToken 241 = .ok (.aload_n 0, 1) := by decide +kernel
theorem dX9_nextToken_242 : decode cX9_nextToken 242 = .ok (.getfield 238, 3) := by decide +kernel
theorem dX9_nextToken_245 : decode cX9_nextToken 245 = .ok (.imul, 1) := by decide +kernel
theorem dX9_nextToken_246 : decode cX9_nextToken 246 = .ok (.aload_n 0, 1) := by decide +kernel
theorem dX9_nextToken_247 : decode cX9_nextToken 247 = .ok (.getfield 46, 3) := by decide +kernel
theorem dX9_nextToken_250 : decode cX9_nextToken 250 = .ok (.aload_n 0, 1) := by decide +kernel
theorem dX9_nextToken_251 : decode cX9_nextToken 251 = .ok (.getfield 220, 3) := by decide +kernel
theorem dX9_nextToken_254 : decode cX9_nextToken 254 = .ok (.iaload, 1) := by decide +kernel
theorem dX9_nextToken_255 : decode cX9_nextToken 255 = .ok (.iadd, 1) := by decide +kernel
theorem dX9_nextToken_256 : decode cX9_nextToken 256 = .ok (.bipush 48, 2) := by decide +kernel
theorem dX9_nextToken_258 : decode cX9_nextToken 258 = .ok (.isub, 1) := by decide +kernel
theorem dX9_nextToken_259 : decode cX9_nextToken 259 = .ok (.goto 7, 3) := by decide +kernel
theorem dX9_nextToken_262 : decode cX9_nextToken 262 = .ok (.aload_n 0, 1) := by decide +kernel
theorem dX9_nextToken_263 : decode cX9_nextToken 263 = .ok (.getfield 238, 3) := by decide +kernel
theorem dX9_nextToken_266 : decode cX9_nextToken 266 = .ok (.putfield 238, 3) := by decide +kernel
theorem dX9_nextToken_269 : decode cX9_nextToken 269 = .ok (.aload_n 0, 1) := by decide +kernel
theorem dX9_nextToken_270 : decode cX9_nextToken 270 = .ok (.dup, 1) := by decide +kernel
theorem dX9_nextToken_271 : decode cX9_nextToken 271 = .ok (.getfield 220, 3) := by decide +kernel
theorem dX9_nextToken_274 : decode cX9_nextToken 274 = .ok (.iconst 1, 1) := by decide +kernel
theorem dX9_nextToken_275 : decode cX9_nextToken 275 = .ok (.iadd, 1) := by decide +kernel
theorem dX9_nextToken_276 : decode cX9_nextToken 276 = .ok (.putfield 220, 3) := by decide +kernel
theorem dX9_nextToken_279 : decode cX9_nextToken 279 = .ok (.goto (-65), 3) := by decide +kernel
theorem dX9_nextToken_282 : decode cX9_nextToken 282 = .ok (.aload_n 0, 1) := by decide +kernel
theorem dX9_nextToken_283 : decode cX9_nextToken 283 = .ok (.iload_n 1, 1) := by decide +kernel
theorem dX9_nextToken_284 : decode cX9_nextToken 284 = .ok (.ifCond .ne 16, 3) := by decide +kernel
theorem dX9_nextToken_287 : decode cX9_nextToken 287 = .ok (.aload_n 0, 1) := by decide +kernel
theorem dX9_nextToken_288 : decode cX9_nextToken 288 = .ok (.getfield 220, 3) := by decide +kernel
theorem dX9_nextToken_291 : decode cX9_nextToken 291 = .ok (.aload_n 0, 1) := by decide +kernel
theorem dX9_nextToken_292 : decode cX9_nextToken 292 = .ok (.getfield 226, 3) := by decide +kernel
theorem dX9_nextToken_295 : decode cX9_nextToken 295 = .ok (.isub, 1) := by decide +kernel
theorem dX9_nextToken_296 : decode cX9_nextToken 296 = .ok (.iconst 4, 1) := by decide +kernel
theorem dX9_nextToken_297 : decode cX9_nextToken 297 = .ok (.if_icmp .le 7, 3) := by decide +kernel
theorem dX9_nextToken_300 : decode cX9_nextToken 300 = .ok (.iconst 4, 1) := by decide +kernel
theorem dX9_nextToken_301 : decode cX9_nextToken 301 = .ok (.goto 4, 3) := by decide +kernel
theorem dX9_nextToken_304 : decode cX9_nextToken 304 = .ok (.iconst 2, 1) := by decide +kernel
theorem dX9_nextToken_305 : decode cX9_nextToken 305 = .ok (.putfield 223, 3) := by decide +kernel
theorem dX9_nextToken_308 : decode cX9_nextToken 308 = .ok (.goto 31, 3) := by decide +kernel
theorem dX9_nextToken_311 : decode cX9_nextToken 311 = .ok (.aload_n 0, 1) := by decide +kernel
theorem dX9_nextToken_312 : decode cX9_nextToken 312 = .ok (.iconst 3, 1) := by decide +kernel
theorem dX9_nextToken_313 : decode cX9_nextToken 313 = .ok (.putfield 223, 3) := by decide +kernel
theorem dX9_nextToken_316 : decode cX9_nextToken 316 = .ok (.aload_n 0, 1) := by decide +kernel
theorem dX9_nextToken_317 : decode cX9_nextToken 317 = .ok (.aload_n 0, 1) := by decide +kernel
theorem dX9_nextToken_318 : decode cX9_nextToken 318 = .ok (.getfield 46, 3) := by decide +kernel
theorem dX9_nextToken_321 : decode cX9_nextToken 321 = .ok (.aload_n 0, 1) := by decide +kernel
theorem dX9_nextToken_322 : decode cX9_nextToken 322 = .ok (.getfield 226, 3) := by decide +kernel
theorem dX9_nextToken_325 : decode cX9_nextToken 325 = .ok (.iaload, 1) := by decide +kernel
theorem dX9_nextToken_326 : decode cX9_nextToken 326 = .ok (.putfield 232, 3) := by decide +kernel
theorem dX9_nextToken_329 : decode cX9_nextToken 329 = .ok (.aload_n 0, 1) := by decide +kernel
theorem dX9_nextToken_330 : decode cX9_nextToken 330 = .ok (.dup, 1) := by decide +kernel
theorem dX9_nextToken_331 : decode cX9_nextToken 331 = .ok (.getfield 220, 3) := by decide +kernel
theorem dX9_nextToken_334 : decode cX9_nextToken 334 = .ok (.iconst 1, 1) := by decide +kernel
theorem dX9_nextToken_335 : decode cX9_nextToken 335 = .ok (.iadd, 1) := by decide +kernel
theorem dX9_nextToken_336 : decode cX9_nextToken 336 = .ok (.putfield 220, 3) := by decide +kernel
theorem dX9_nextToken_339 : decode cX9_nextToken 339 = .ok (.return_, 1) := by decide +kernel
theorem dX9_isSign_0 : decode cX9_isSign 0 = .ok (.aload_n 0, 1) := by decide +kernel
theorem dX9_isSign_1 : decode cX9_isSign 1 = .ok (.getfield 223, 3) := by decide +kernel
theorem dX9_isSign_4 : decode cX9_isSign 4 = .ok (.iconst 3, 1) := by decide +kernel
theorem dX9_isSign_5 : decode cX9_isSign 5 = .ok (.if_icmp .ne 15, 3) := by decide +kernel
theorem dX9_isSign_8 : decode cX9_isSign 8 = .ok (.aload_n 0, 1) := by decide +kernel
theorem dX9_isSign_9 : decode cX9_isSign 9 = .ok (.getfield 232, 3) := by decide +kernel
theorem dX9_isSign_12 : decode cX9_isSign 12 = .ok (.iload_n 1, 1) := by decide +kernel
theorem dX9_isSign_13 : decode cX9_isSign 13 = .ok (.if_icmp .ne 7, 3) := by decide +kernel
theorem dX9_isSign_16 : decode cX9_isSign 16 = .ok (.iconst 1, 1) := by decide +kernel
theorem dX9_isSign_17 : decode cX9_isSign 17 = .ok (.goto 4, 3) := by decide +kernel
theorem dX9_isSign_20 : decode cX9_isSign 20 = .ok (.iconst 0, 1) := by decide +kernel
theorem dX9_isSign_21 : decode cX9_isSign 21 = .ok (.ireturn, 1) := by decide +kernel
theorem dX9_isWordAt_0 : decode cX9_isWordAt 0 = .ok (.iload 4, 2) := by decide +kernel
theorem dX9_isWordAt_2 : decode cX9_isWordAt 2 = .ok (.ifCond .ne 7, 3) := by decide +kernel
theorem dX9_isWordAt_5 : decode cX9_isWordAt 5 = .ok (.iconst 3, 1) := by decide +kernel
theorem dX9_isWordAt_6 : decode cX9_isWordAt 6 = .ok (.goto 4, 3) := by decide +kernel
theorem dX9_isWordAt_9 : decode cX9_isWordAt 9 = .ok (.iconst 4, 1) := by decide +kernel
theorem dX9_isWordAt_10 : decode cX9_isWordAt 10 = .ok (.istore 5, 2) := by decide +kernel
theorem dX9_isWordAt_12 : decode cX9_isWordAt 12 = .ok (.aload_n 0, 1) := by decide +kernel
theorem dX9_isWordAt_13 : decode cX9_isWordAt 13 = .ok (.getfield 223, 3) := by decide +kernel
theorem dX9_isWordAt_16 : decode cX9_isWordAt 16 = .ok (.iconst 1, 1) := by decide +kernel
theorem dX9_isWordAt_17 : decode cX9_isWordAt 17 = .ok (.if_icmp .ne 85, 3) := by decide +kernel
theorem dX9_isWordAt_20 : decode cX9_isWordAt 20 = .ok (.aload_n 0, 1) := by decide +kernel
theorem dX9_isWordAt_21 : decode cX9_isWordAt 21 = .ok (.getfield 220, 3) := by decide +kernel
theorem dX9_isWordAt_24 : decode cX9_isWordAt 24 = .ok (.aload_n 0, 1) := by decide +kernel
theorem dX9_isWordAt_25 : decode cX9_isWordAt 25 = .ok (.getfield 226, 3) := by decide +kernel
theorem dX9_isWordAt_28 : decode cX9_isWordAt 28 = .ok (.isub, 1) := by decide +kernel
theorem dX9_isWordAt_29 : decode cX9_isWordAt 29 = .ok (.iload 5, 2) := by decide +kernel
theorem dX9_isWordAt_31 : decode cX9_isWordAt 31 = .ok (.if_icmp .ne 71, 3) := by decide +kernel
theorem dX9_isWordAt_34 : decode cX9_isWordAt 34 = .ok (.aload_n 0, 1) := by decide +kernel
theorem dX9_isWordAt_35 : decode cX9_isWordAt 35 = .ok (.getfield 46, 3) := by decide +kernel
theorem dX9_isWordAt_38 : decode cX9_isWordAt 38 = .ok (.aload_n 0, 1) := by decide +kernel
theorem dX9_isWordAt_39 : decode cX9_isWordAt 39 = .ok (.getfield 226, 3) := by decide +kernel
theorem dX9_isWordAt_42 : decode cX9_isWordAt 42 = .ok (.iaload, 1) := by decide +kernel
theorem dX9_isWordAt_43 : decode cX9_isWordAt 43 = .ok (.iload_n 1, 1) := by decide +kernel
theorem dX9_isWordAt_44 : decode cX9_isWordAt 44 = .ok (.if_icmp .ne 58, 3) := by decide +kernel
theorem dX9_isWordAt_47 : decode cX9_isWordAt 47 = .ok (.aload_n 0, 1) := by decide +kernel
theorem dX9_isWordAt_48 : decode cX9_isWordAt 48 = .ok (.getfield 46, 3) := by decide +kernel
theorem dX9_isWordAt_51 : decode cX9_isWordAt 51 = .ok (.aload_n 0, 1) := by decide +kernel
theorem dX9_isWordAt_52 : decode cX9_isWordAt 52 = .ok (.getfield 226, 3) := by decide +kernel
theorem dX9_isWordAt_55 : decode cX9_isWordAt 55 = .ok (.iconst 1, 1) := by decide +kernel
theorem dX9_isWordAt_56 : decode cX9_isWordAt 56 = .ok (.iadd, 1) := by decide +kernel
theorem dX9_isWordAt_57 : decode cX9_isWordAt 57 = .ok (.iaload, 1) := by decide +kernel
theorem dX9_isWordAt_58 : decode cX9_isWordAt 58 = .ok (.iload_n 2, 1) := by decide +kernel
theorem dX9_isWordAt_59 : decode cX9_isWordAt 59 = .ok (.if_icmp .ne 43, 3) := by decide +kernel
theorem dX9_isWordAt_62 : decode cX9_isWordAt 62 = .ok (.aload_n 0, 1) := by decide +kernel
theorem dX9_isWordAt_63 : decode cX9_isWordAt 63 = .ok (.getfield 46, 3) := by decide +kernel
theorem dX9_isWordAt_66 : decode cX9_isWordAt 66 = .ok (.aload_n 0, 1) := by decide +kernel
theorem dX9_isWordAt_67 : decode cX9_isWordAt 67 = .ok (.getfield 226, 3) := by decide +kernel
theorem dX9_isWordAt_70 : decode cX9_isWordAt 70 = .ok (.iconst 2, 1) := by decide +kernel
theorem dX9_isWordAt_71 : decode cX9_isWordAt 71 = .ok (.iadd, 1) := by decide +kernel
theorem dX9_isWordAt_72 : decode cX9_isWordAt 72 = .ok (.iaload, 1) := by decide +kernel
theorem dX9_isWordAt_73 : decode cX9_isWordAt 73 = .ok (.iload_n 3, 1) := by decide +kernel
theorem dX9_isWordAt_74 : decode cX9_isWordAt 74 = .ok (.if_icmp .ne 28, 3) := by decide +kernel
theorem dX9_isWordAt_77 : decode cX9_isWordAt 77 = .ok (.iload 4, 2) := by decide +kernel
theorem dX9_isWordAt_79 : decode cX9_isWordAt 79 = .ok (.ifCond .eq 19, 3) := by decide +kernel
theorem dX9_isWordAt_82 : decode cX9_isWordAt 82 = .ok (.aload_n 0, 1) := by decide +kernel
theorem dX9_isWordAt_83 : decode cX9_isWordAt 83 = .ok (.getfield 46, 3) := by decide +kernel
theorem dX9_isWordAt_86 : decode cX9_isWordAt 86 = .ok (.aload_n 0, 1) := by decide +kernel
theorem dX9_isWordAt_87 : decode cX9_isWordAt 87 = .ok (.getfield 226, 3) := by decide +kernel
theorem dX9_isWordAt_90 : decode cX9_isWordAt 90 = .ok (.iconst 3, 1) := by decide +kernel
theorem dX9_isWordAt_91 : decode cX9_isWordAt 91 = .ok (.iadd, 1) := by decide +kernel
theorem dX9_isWordAt_92 : decode cX9_isWordAt 92 = .ok (.iaload, 1) := by decide +kernel
theorem dX9_isWordAt_93 : decode cX9_isWordAt 93 = .ok (.iload 4, 2) := by decide +kernel
theorem dX9_isWordAt_95 : decode cX9_isWordAt 95 = .ok (.if_icmp .ne 7, 3) := by decide +kernel
theorem dX9_isWordAt_98 : decode cX9_isWordAt 98 = .ok (.iconst 1, 1) := by decide +kernel
theorem dX9_isWordAt_99 : decode cX9_isWordAt 99 = .ok (.goto 4, 3) := by decide +kernel
theorem dX9_isWordAt_102 : decode cX9_isWordAt 102 = .ok (.iconst 0, 1) := by decide +kernel
theorem dX9_isWordAt_103 : decode cX9_isWordAt 103 = .ok (.ireturn, 1) := by decide +kernel
theorem dX9_isLong_0 : decode cX9_isLong 0 = .ok (.iload 6, 2) := by decide +kernel
theorem dX9_isLong_2 : decode cX9_isLong 2 = .ok (.ifCond .ne 7, 3) := by decide +kernel
theorem dX9_isLong_5 : decode cX9_isLong 5 = .ok (.iconst 5, 1) := by decide +kernel
theorem dX9_isLong_6 : decode cX9_isLong 6 = .ok (.goto 5, 3) := by decide +kernel
theorem dX9_isLong_9 : decode cX9_isLong 9 = .ok (.bipush 6, 2) := by decide +kernel
theorem dX9_isLong_11 : decode cX9_isLong 11 = .ok (.istore 7, 2) := by decide +kernel
theorem dX9_isLong_13 : decode cX9_isLong 13 = .ok (.aload_n 0, 1) := by decide +kernel
theorem dX9_isLong_14 : decode cX9_isLong 14 = .ok (.getfield 223, 3) := by decide +kernel
theorem dX9_isLong_17 : decode cX9_isLong 17 = .ok (.iconst 1, 1) := by decide +kernel
theorem dX9_isLong_18 : decode cX9_isLong 18 = .ok (.if_icmp .ne 117, 3) := by decide +kernel
theorem dX9_isLong_21 : decode cX9_isLong 21 = .ok (.aload_n 0, 1) := by decide +kernel
theorem dX9_isLong_22 : decode cX9_isLong 22 = .ok (.getfield 220, 3) := by decide +kernel
theorem dX9_isLong_25 : decode cX9_isLong 25 = .ok (.aload_n 0, 1) := by decide +kernel
theorem dX9_isLong_26 : decode cX9_isLong 26 = .ok (.getfield 226, 3) := by decide +kernel
theorem dX9_isLong_29 : decode cX9_isLong 29 = .ok (.isub, 1) := by decide +kernel
theorem dX9_isLong_30 : decode cX9_isLong 30 = .ok (.iload 7, 2) := by decide +kernel
theorem dX9_isLong_32 : decode cX9_isLong 32 = .ok (.if_icmp .ne 103, 3) := by decide +kernel
theorem dX9_isLong_35 : decode cX9_isLong 35 = .ok (.aload_n 0, 1) := by decide +kernel
theorem dX9_isLong_36 : decode cX9_isLong 36 = .ok (.getfield 46, 3) := by decide +kernel
theorem dX9_isLong_39 : decode cX9_isLong 39 = .ok (.aload_n 0, 1) := by decide +kernel
theorem dX9_isLong_40 : decode cX9_isLong 40 = .ok (.getfield 226, 3) := by decide +kernel
theorem dX9_isLong_43 : decode cX9_isLong 43 = .ok (.iaload, 1) := by decide +kernel
theorem dX9_isLong_44 : decode cX9_isLong 44 = .ok (.iload_n 1, 1) := by decide +kernel
theorem dX9_isLong_45 : decode cX9_isLong 45 = .ok (.if_icmp .ne 90, 3) := by decide +kernel
theorem dX9_isLong_48 : decode cX9_isLong 48 = .ok (.aload_n 0, 1) := by decide +kernel
theorem dX9_isLong_49 : decode cX9_isLong 49 = .ok (.getfield 46, 3) := by decide +kernel
theorem dX9_isLong_52 : decode cX9_isLong 52 = .ok (.aload_n 0, 1) := by decide +kernel
theorem dX9_isLong_53 : decode cX9_isLong 53 = .ok (.getfield 226, 3) := by decide +kernel
theorem dX9_isLong_56 : decode cX9_isLong 56 = .ok (.iconst 1, 1) := by decide +kernel
theorem dX9_isLong_57 : decode cX9_isLong 57 = .ok (.iadd, 1) := by decide +kernel
theorem dX9_isLong_58 : decode cX9_isLong 58 = .ok (.iaload, 1) := by decide +kernel
theorem dX9_isLong_59 : decode cX9_isLong 59 = .ok (.iload_n 2, 1) := by decide +kernel
theorem dX9_isLong_60 : decode cX9_isLong 60 = .ok (.if_icmp .ne 75, 3) := by decide +kernel
theorem dX9_isLong_63 : decode cX9_isLong 63 = .ok (.aload_n 0, 1) := by decide +kernel
theorem dX9_isLong_64 : decode cX9_isLong 64 = .ok (.getfield 46, 3) := by decide +kernel
theorem dX9_isLong_67 : decode cX9_isLong 67 = .ok (.aload_n 0, 1) := by decide +kernel
theorem dX9_isLong_68 : decode cX9_isLong 68 = .ok (.getfield 226, 3) := by decide +kernel
theorem dX9_isLong_71 : decode cX9_isLong 71 = .ok (.iconst 2, 1) := by decide +kernel
theorem dX9_isLong_72 : decode cX9_isLong 72 = .ok (.iadd, 1) := by decide +kernel
theorem dX9_isLong_73 : decode cX9_isLong 73 = .ok (.iaload, 1) := by decide +kernel
theorem dX9_isLong_74 : decode cX9_isLong 74 = .ok (.iload_n 3, 1) := by decide +kernel
theorem dX9_isLong_75 : decode cX9_isLong 75 = .ok (.if_icmp .ne 60, 3) := by decide +kernel
theorem dX9_isLong_78 : decode cX9_isLong 78 = .ok (.aload_n 0, 1) := by decide +kernel
theorem dX9_isLong_79 : decode cX9_isLong 79 = .ok (.getfield 46, 3) := by decide +kernel
theorem dX9_isLong_82 : decode cX9_isLong 82 = .ok (.aload_n 0, 1) := by decide +kernel
theorem dX9_isLong_83 : decode cX9_isLong 83 = .ok (.getfield 226, 3) := by decide +kernel
theorem dX9_isLong_86 : decode cX9_isLong 86 = .ok (.iconst 3, 1) := by decide +kernel
theorem dX9_isLong_87 : decode cX9_isLong 87 = .ok (.iadd, 1) := by decide +kernel
theorem dX9_isLong_88 : decode cX9_isLong 88 = .ok (.iaload, 1) := by decide +kernel
theorem dX9_isLong_89 : decode cX9_isLong 89 = .ok (.iload 4, 2) := by decide +kernel
theorem dX9_isLong_91 : decode cX9_isLong 91 = .ok (.if_icmp .ne 44, 3) := by decide +kernel
theorem dX9_isLong_94 : decode cX9_isLong 94 = .ok (.aload_n 0, 1) := by decide +kernel
theorem dX9_isLong_95 : decode cX9_isLong 95 = .ok (.getfield 46, 3) := by decide +kernel
theorem dX9_isLong_98 : decode cX9_isLong 98 = .ok (.aload_n 0, 1) := by decide +kernel
theorem dX9_isLong_99 : decode cX9_isLong 99 = .ok (.getfield 226, 3) := by decide +kernel
theorem dX9_isLong_102 : decode cX9_isLong 102 = .ok (.iconst 4, 1) := by decide +kernel
theorem dX9_isLong_103 : decode cX9_isLong 103 = .ok (.iadd, 1) := by decide +kernel
theorem dX9_isLong_104 : decode cX9_isLong 104 = .ok (.iaload, 1) := by decide +kernel
theorem dX9_isLong_105 : decode cX9_isLong 105 = .ok (.iload 5, 2) := by decide +kernel
theorem dX9_isLong_107 : decode cX9_isLong 107 = .ok (.if_icmp .ne 28, 3) := by decide +kernel
theorem dX9_isLong_110 : decode cX9_isLong 110 = .ok (.iload 6, 2) := by decide +kernel
theorem dX9_isLong_112 : decode cX9_isLong 112 = .ok (.ifCond .eq 19, 3) := by decide +kernel
theorem dX9_isLong_115 : decode cX9_isLong 115 = .ok (.aload_n 0, 1) := by decide +kernel
theorem dX9_isLong_116 : decode cX9_isLong 116 = .ok (.getfield 46, 3) := by decide +kernel
theorem dX9_isLong_119 : decode cX9_isLong 119 = .ok (.aload_n 0, 1) := by decide +kernel
theorem dX9_isLong_120 : decode cX9_isLong 120 = .ok (.getfield 226, 3) := by decide +kernel
theorem dX9_isLong_123 : decode cX9_isLong 123 = .ok (.iconst 5, 1) := by decide +kernel
theorem dX9_isLong_124 : decode cX9_isLong 124 = .ok (.iadd, 1) := by decide +kernel
theorem dX9_isLong_125 : decode cX9_isLong 125 = .ok (.iaload, 1) := by decide +kernel
theorem dX9_isLong_126 : decode cX9_isLong 126 = .ok (.iload 6, 2) := by decide +kernel
theorem dX9_isLong_128 : decode cX9_isLong 128 = .ok (.if_icmp .ne 7, 3) := by decide +kernel
theorem dX9_isLong_131 : decode cX9_isLong 131 = .ok (.iconst 1, 1) := by decide +kernel
theorem dX9_isLong_132 : decode cX9_isLong 132 = .ok (.goto 4, 3) := by decide +kernel
theorem dX9_isLong_135 : decode cX9_isLong 135 = .ok (.iconst 0, 1) := by decide +kernel
theorem dX9_isLong_136 : decode cX9_isLong 136 = .ok (.ireturn, 1) := by decide +kernel
theorem dX9_key_0 : decode cX9_key 0 = .ok (.aload_n 0, 1) := by decide +kernel
theorem dX9_key_1 : decode cX9_key 1 = .ok (.bipush 108, 2) := by decide +kernel
theorem dX9_key_3 : decode cX9_key 3 = .ok (.bipush 105, 2) := by decide +kernel
theorem dX9_key_5 : decode cX9_key 5 = .ok (.bipush 103, 2) := by decide +kernel
theorem dX9_key_7 : decode cX9_key 7 = .ok (.bipush 104, 2) := by decide +kernel
theorem dX9_key_9 : decode cX9_key 9 = .ok (.bipush 116, 2) := by decide +kernel
theorem dX9_key_11 : decode cX9_key 11 = .ok (.iconst 0, 1) := by decide +kernel
theorem dX9_key_12 : decode cX9_key 12 = .ok (.invokevirtual 241, 3) := by decide +kernel
theorem dX9_key_15 : decode cX9_key 15 = .ok (.ifCond .eq 5, 3) := by decide +kernel
theorem dX9_key_18 : decode cX9_key 18 = .ok (.iconst 0, 1) := by decide +kernel
theorem dX9_key_19 : decode cX9_key 19 = .ok (.ireturn, 1) := by decide +kernel
theorem dX9_key_20 : decode cX9_key 20 = .ok (.aload_n 0, 1) := by decide +kernel
theorem dX9_key_21 : decode cX9_key 21 = .ok (.bipush 102, 2) := by decide +kernel
theorem dX9_key_23 : decode cX9_key 23 = .ok (.bipush 101, 2) := by decide +kernel
theorem dX9_key_25 : decode cX9_key 25 = .ok (.bipush 97, 2) := by decide +kernel
theorem dX9_key_27 : decode cX9_key 27 = .ok (.bipush 114, 2) := by decide +kernel
theorem dX9_key_29 : decode cX9_key 29 = .ok (.invokevirtual 245, 3) := by decide +kernel
theorem dX9_key_32 : decode cX9_key 32 = .ok (.ifCond .eq 5, 3) := by decide +kernel
theorem dX9_key_35 : decode cX9_key 35 = .ok (.iconst 1, 1) := by decide +kernel
theorem dX9_key_36 : decode cX9_key 36 = .ok (.ireturn, 1) := by decide +kernel
theorem dX9_key_37 : decode cX9_key 37 = .ok (.aload_n 0, 1) := by decide +kernel
theorem dX9_key_38 : decode cX9_key 38 = .ok (.bipush 116, 2) := by decide +kernel
theorem dX9_key_40 : decode cX9_key 40 = .ok (.bipush 105, 2) := by decide +kernel
theorem dX9_key_42 : decode cX9_key 42 = .ok (.bipush 114, 2) := by decide +kernel
theorem dX9_key_44 : decode cX9_key 44 = .ok (.bipush 101, 2) := by decide +kernel
theorem dX9_key_46 : decode cX9_key 46 = .ok (.invokevirtual 245, 3) := by decide +kernel
theorem dX9_key_49 : decode cX9_key 49 = .ok (.ifCond .eq 7, 3) := by decide +kernel
theorem dX9_key_52 : decode cX9_key 52 = .ok (.iconst 2, 1) := by decide +kernel
theorem dX9_key_53 : decode cX9_key 53 = .ok (.goto 4, 3) := by decide +kernel
theorem dX9_key_56 : decode cX9_key 56 = .ok (.iconst (-1), 1) := by decide +kernel
theorem dX9_key_57 : decode cX9_key 57 = .ok (.ireturn, 1) := by decide +kernel
theorem dX9_isName_0 : decode cX9_isName 0 = .ok (.iload_n 0, 1) := by decide +kernel
theorem dX9_isName_1 : decode cX9_isName 1 = .ok (.lookupswitch 75 #[(0, 27), (1, 51)], 27) := by decide +kernel
theorem dX9_isName_28 : decode cX9_isName 28 = .ok (.iload_n 1, 1) := by decide +kernel
theorem dX9_isName_29 : decode cX9_isName 29 = .ok (.bipush 102, 2) := by decide +kernel
theorem dX9_isName_31 : decode cX9_isName 31 = .ok (.if_icmp .eq 15, 3) := by decide +kernel
theorem dX9_isName_34 : decode cX9_isName 34 = .ok (.iload_n 1, 1) := by decide +kernel
theorem dX9_isName_35 : decode cX9_isName 35 = .ok (.bipush 110, 2) := by decide +kernel
theorem dX9_isName_37 : decode cX9_isName 37 = .ok (.if_icmp .eq 9, 3) := by decide +kernel
theorem dX9_isName_40 : decode cX9_isName 40 = .ok (.iload_n 1, 1) := by decide +kernel
theorem dX9_isName_41 : decode cX9_isName 41 = .ok (.bipush 119, 2) := by decide +kernel
theorem dX9_isName_43 : decode cX9_isName 43 = .ok (.if_icmp .ne 7, 3) := by decide +kernel
theorem dX9_isName_46 : decode cX9_isName 46 = .ok (.iconst 1, 1) := by decide +kernel
theorem dX9_isName_47 : decode cX9_isName 47 = .ok (.goto 4, 3) := by decide +kernel
theorem dX9_isName_50 : decode cX9_isName 50 = .ok (.iconst 0, 1) := by decide +kernel
theorem dX9_isName_51 : decode cX9_isName 51 = .ok (.ireturn, 1) := by decide +kernel
theorem dX9_isName_52 : decode cX9_isName 52 = .ok (.iload_n 1, 1) := by decide +kernel
theorem dX9_isName_53 : decode cX9_isName 53 = .ok (.bipush 103, 2) := by decide +kernel
theorem dX9_isName_55 : decode cX9_isName 55 = .ok (.if_icmp .eq 15, 3) := by decide +kernel
theorem dX9_isName_58 : decode cX9_isName 58 = .ok (.iload_n 1, 1) := by decide +kernel
theorem dX9_isName_59 : decode cX9_isName 59 = .ok (.bipush 116, 2) := by decide +kernel
theorem dX9_isName_61 : decode cX9_isName 61 = .ok (.if_icmp .eq 9, 3) := by decide +kernel
theorem dX9_isName_64 : decode cX9_isName 64 = .ok (.iload_n 1, 1) := by decide +kernel
theorem dX9_isName_65 : decode cX9_isName 65 = .ok (.bipush 104, 2) := by decide +kernel
theorem dX9_isName_67 : decode cX9_isName 67 = .ok (.if_icmp .ne 7, 3) := by decide +kernel
theorem dX9_isName_70 : decode cX9_isName 70 = .ok (.iconst 1, 1) := by decide +kernel
theorem dX9_isName_71 : decode cX9_isName 71 = .ok (.goto 4, 3) := by decide +kernel
theorem dX9_isName_74 : decode cX9_isName 74 = .ok (.iconst 0, 1) := by decide +kernel
theorem dX9_isName_75 : decode cX9_isName 75 = .ok (.ireturn, 1) := by decide +kernel
theorem dX9_isName_76 : decode cX9_isName 76 = .ok (.iload_n 1, 1) := by decide +kernel
theorem dX9_isName_77 : decode cX9_isName 77 = .ok (.bipush 116, 2) := by decide +kernel
theorem dX9_isName_79 : decode cX9_isName 79 = .ok (.if_icmp .eq 9, 3) := by decide +kernel
theorem dX9_isName_82 : decode cX9_isName 82 = .ok (.iload_n 1, 1) := by decide +kernel
theorem dX9_isName_83 : decode cX9_isName 83 = .ok (.bipush 101, 2) := by decide +kernel
theorem dX9_isName_85 : decode cX9_isName 85 = .ok (.if_icmp .ne 7, 3) := by decide +kernel
theorem dX9_isName_88 : decode cX9_isName 88 = .ok (.iconst 1, 1) := by decide +kernel
theorem dX9_isName_89 : decode cX9_isName 89 = .ok (.goto 4, 3) := by decide +kernel
theorem dX9_isName_92 : decode cX9_isName 92 = .ok (.iconst 0, 1) := by decide +kernel
theorem dX9_isName_93 : decode cX9_isName 93 = .ok (.ireturn, 1) := by decide +kernel
theorem dX9_step_0 : decode cX9_step 0 = .ok (.aload_n 0, 1) := by decide +kernel
theorem dX9_step_1 : decode cX9_step 1 = .ok (.getfield 7, 3) := by decide +kernel
theorem dX9_step_4 : decode cX9_step 4 = .ok (.aload_n 0, 1) := by decide +kernel
theorem dX9_step_5 : decode cX9_step 5 = .ok (.getfield 249, 3) := by decide +kernel
theorem dX9_step_8 : decode cX9_step 8 = .ok (.iconst 2, 1) := by decide +kernel
theorem dX9_step_9 : decode cX9_step 9 = .ok (.aload_n 0, 1) := by decide +kernel
theorem dX9_step_10 : decode cX9_step 10 = .ok (.getfield 252, 3) := by decide +kernel
theorem dX9_step_13 : decode cX9_step 13 = .ok (.imul, 1) := by decide +kernel
theorem dX9_step_14 : decode cX9_step 14 = .ok (.iadd, 1) := by decide +kernel
theorem dX9_step_15 : decode cX9_step 15 = .ok (.iload_n 1, 1) := by decide +kernel
theorem dX9_step_16 : decode cX9_step 16 = .ok (.iastore, 1) := by decide +kernel
theorem dX9_step_17 : decode cX9_step 17 = .ok (.aload_n 0, 1) := by decide +kernel
theorem dX9_step_18 : decode cX9_step 18 = .ok (.getfield 7, 3) := by decide +kernel
theorem dX9_step_21 : decode cX9_step 21 = .ok (.aload_n 0, 1) := by decide +kernel
theorem dX9_step_22 : decode cX9_step 22 = .ok (.getfield 249, 3) := by decide +kernel
theorem dX9_step_25 : decode cX9_step 25 = .ok (.iconst 2, 1) := by decide +kernel
theorem dX9_step_26 : decode cX9_step 26 = .ok (.aload_n 0, 1) := by decide +kernel
theorem dX9_step_27 : decode cX9_step 27 = .ok (.getfield 252, 3) := by decide +kernel
theorem dX9_step_30 : decode cX9_step 30 = .ok (.imul, 1) := by decide +kernel
theorem dX9_step_31 : decode cX9_step 31 = .ok (.iadd, 1) := by decide +kernel
theorem dX9_step_32 : decode cX9_step 32 = .ok (.iconst 1, 1) := by decide +kernel
theorem dX9_step_33 : decode cX9_step 33 = .ok (.iadd, 1) := by decide +kernel
theorem dX9_step_34 : decode cX9_step 34 = .ok (.iload_n 2, 1) := by decide +kernel
theorem dX9_step_35 : decode cX9_step 35 = .ok (.iastore, 1) := by decide +kernel
theorem dX9_step_36 : decode cX9_step 36 = .ok (.aload_n 0, 1) := by decide +kernel
theorem dX9_step_37 : decode cX9_step 37 = .ok (.dup, 1) := by decide +kernel
theorem dX9_step_38 : decode cX9_step 38 = .ok (.getfield 252, 3) := by decide +kernel
theorem dX9_step_41 : decode cX9_step 41 = .ok (.iconst 1, 1) := by decide +kernel
theorem dX9_step_42 : decode cX9_step 42 = .ok (.iadd, 1) := by decide +kernel
theorem dX9_step_43 : decode cX9_step 43 = .ok (.putfield 252, 3) := by decide +kernel
theorem dX9_step_46 : decode cX9_step 46 = .ok (.return_, 1) := by decide +kernel
theorem dX9_either_0 : decode cX9_either 0 = .ok (.aload_n 0, 1) := by decide +kernel
theorem dX9_either_1 : decode cX9_either 1 = .ok (.iload_n 1, 1) := by decide +kernel
theorem dX9_either_2 : decode cX9_either 2 = .ok (.invokevirtual 255, 3) := by decide +kernel
theorem dX9_either_5 : decode cX9_either 5 = .ok (.ifCond .ne 5, 3) := by decide +kernel
theorem dX9_either_8 : decode cX9_either 8 = .ok (.iconst 0, 1) := by decide +kernel
theorem dX9_either_9 : decode cX9_either 9 = .ok (.ireturn, 1) := by decide +kernel
theorem dX9_either_10 : decode cX9_either 10 = .ok (.aload_n 0, 1) := by decide +kernel
theorem dX9_either_11 : decode cX9_either 11 = .ok (.bipush 124, 2) := by decide +kernel
theorem dX9_either_13 : decode cX9_either 13 = .ok (.invokevirtual 258, 3) := by decide +kernel
theorem dX9_either_16 : decode cX9_either 16 = .ok (.ifCond .eq 27, 3) := by decide +kernel
theorem dX9_either_19 : decode cX9_either 19 = .ok (.aload_n 0, 1) := by decide +kernel
theorem dX9_either_20 : decode cX9_either 20 = .ok (.invokevirtual 261, 3) := by decide +kernel
theorem dX9_either_23 : decode cX9_either 23 = .ok (.aload_n 0, 1) := by decide +kernel
theorem dX9_either_24 : decode cX9_either 24 = .ok (.iload_n 1, 1) := by decide +kernel
theorem dX9_either_25 : decode cX9_either 25 = .ok (.invokevirtual 255, 3) := by decide +kernel
theorem dX9_either_28 : decode cX9_either 28 = .ok (.ifCond .ne 5, 3) := by decide +kernel
theorem dX9_either_31 : decode cX9_either 31 = .ok (.iconst 0, 1) := by decide +kernel
theorem dX9_either_32 : decode cX9_either 32 = .ok (.ireturn, 1) := by decide +kernel
theorem dX9_either_33 : decode cX9_either 33 = .ok (.aload_n 0, 1) := by decide +kernel
theorem dX9_either_34 : decode cX9_either 34 = .ok (.iconst 2, 1) := by decide +kernel
theorem dX9_either_35 : decode cX9_either 35 = .ok (.bipush 124, 2) := by decide +kernel
theorem dX9_either_37 : decode cX9_either 37 = .ok (.invokevirtual 264, 3) := by decide +kernel
theorem dX9_either_40 : decode cX9_either 40 = .ok (.goto (-30), 3) := by decide +kernel
theorem dX9_either_43 : decode cX9_either 43 = .ok (.iconst 1, 1) := by decide +kernel
theorem dX9_either_44 : decode cX9_either 44 = .ok (.ireturn, 1) := by decide +kernel
theorem dX9_both_0 : decode cX9_both 0 = .ok (.aload_n 0, 1) := by decide +kernel
theorem dX9_both_1 : decode cX9_both 1 = .ok (.iload_n 1, 1) := by decide +kernel
theorem dX9_both_2 : decode cX9_both 2 = .ok (.invokevirtual 268, 3) := by decide +kernel
theorem dX9_both_5 : decode cX9_both 5 = .ok (.ifCond .ne 5, 3) := by decide +kernel
theorem dX9_both_8 : decode cX9_both 8 = .ok (.iconst 0, 1) := by decide +kernel
theorem dX9_both_9 : decode cX9_both 9 = .ok (.ireturn, 1) := by decide +kernel
theorem dX9_both_10 : decode cX9_both 10 = .ok (.aload_n 0, 1) := by decide +kernel
theorem dX9_both_11 : decode cX9_both 11 = .ok (.bipush 38, 2) := by decide +kernel
theorem dX9_both_13 : decode cX9_both 13 = .ok (.invokevirtual 258, 3) := by decide +kernel
theorem dX9_both_16 : decode cX9_both 16 = .ok (.ifCond .eq 27, 3) := by decide +kernel
theorem dX9_both_19 : decode cX9_both 19 = .ok (.aload_n 0, 1) := by decide +kernel
theorem dX9_both_20 : decode cX9_both 20 = .ok (.invokevirtual 261, 3) := by decide +kernel
theorem dX9_both_23 : decode cX9_both 23 = .ok (.aload_n 0, 1) := by decide +kernel
theorem dX9_both_24 : decode cX9_both 24 = .ok (.iload_n 1, 1) := by decide +kernel
theorem dX9_both_25 : decode cX9_both 25 = .ok (.invokevirtual 268, 3) := by decide +kernel
theorem dX9_both_28 : decode cX9_both 28 = .ok (.ifCond .ne 5, 3) := by decide +kernel
theorem dX9_both_31 : decode cX9_both 31 = .ok (.iconst 0, 1) := by decide +kernel
theorem dX9_both_32 : decode cX9_both 32 = .ok (.ireturn, 1) := by decide +kernel
theorem dX9_both_33 : decode cX9_both 33 = .ok (.aload_n 0, 1) := by decide +kernel
theorem dX9_both_34 : decode cX9_both 34 = .ok (.iconst 2, 1) := by decide +kernel
theorem dX9_both_35 : decode cX9_both 35 = .ok (.bipush 38, 2) := by decide +kernel
theorem dX9_both_37 : decode cX9_both 37 = .ok (.invokevirtual 264, 3) := by decide +kernel
theorem dX9_both_40 : decode cX9_both 40 = .ok (.goto (-30), 3) := by decide +kernel
theorem dX9_both_43 : decode cX9_both 43 = .ok (.iconst 1, 1) := by decide +kernel
theorem dX9_both_44 : decode cX9_both 44 = .ok (.ireturn, 1) := by decide +kernel
theorem dX9_test_0 : decode cX9_test 0 = .ok (.aload_n 0, 1) := by decide +kernel
theorem dX9_test_1 : decode cX9_test 1 = .ok (.iload_n 1, 1) := by decide +kernel
theorem dX9_test_2 : decode cX9_test 2 = .ok (.invokevirtual 271, 3) := by decide +kernel
theorem dX9_test_5 : decode cX9_test 5 = .ok (.ifCond .ne 5, 3) := by decide +kernel
theorem dX9_test_8 : decode cX9_test 8 = .ok (.iconst 0, 1) := by decide +kernel
theorem dX9_test_9 : decode cX9_test 9 = .ok (.ireturn, 1) := by decide +kernel
theorem dX9_test_10 : decode cX9_test 10 = .ok (.aload_n 0, 1) := by decide +kernel
theorem dX9_test_11 : decode cX9_test 11 = .ok (.bipush 60, 2) := by decide +kernel
theorem dX9_test_13 : decode cX9_test 13 = .ok (.invokevirtual 258, 3) := by decide +kernel
theorem dX9_test_16 : decode cX9_test 16 = .ok (.ifCond .ne 21, 3) := by decide +kernel
theorem dX9_test_19 : decode cX9_test 19 = .ok (.aload_n 0, 1) := by decide +kernel
theorem dX9_test_20 : decode cX9_test 20 = .ok (.bipush 61, 2) := by decide +kernel
theorem dX9_test_22 : decode cX9_test 22 = .ok (.invokevirtual 258, 3) := by decide +kernel
theorem dX9_test_25 : decode cX9_test 25 = .ok (.ifCond .ne 12, 3) := by decide +kernel
theorem dX9_test_28 : decode cX9_test 28 = .ok (.aload_n 0, 1) := by decide +kernel
theorem dX9_test_29 : decode cX9_test 29 = .ok (.bipush 62, 2) := by decide +kernel
theorem dX9_test_31 : decode cX9_test 31 = .ok (.invokevirtual 258, 3) := by decide +kernel
theorem dX9_test_34 : decode cX9_test 34 = .ok (.ifCond .eq 28, 3) := by decide +kernel
theorem dX9_test_37 : decode cX9_test 37 = .ok (.aload_n 0, 1) := by decide +kernel
theorem dX9_test_38 : decode cX9_test 38 = .ok (.getfield 232, 3) := by decide +kernel
theorem dX9_test_41 : decode cX9_test 41 = .ok (.istore_n 2, 1) := by decide +kernel
theorem dX9_test_42 : decode cX9_test 42 = .ok (.aload_n 0, 1) := by decide +kernel
theorem dX9_test_43 : decode cX9_test 43 = .ok (.invokevirtual 261, 3) := by decide +kernel
theorem dX9_test_46 : decode cX9_test 46 = .ok (.aload_n 0, 1) := by decide +kernel
theorem dX9_test_47 : decode cX9_test 47 = .ok (.iload_n 1, 1) := by decide +kernel
theorem dX9_test_48 : decode cX9_test 48 = .ok (.invokevirtual 271, 3) := by decide +kernel
theorem dX9_test_51 : decode cX9_test 51 = .ok (.ifCond .ne 5, 3) := by decide +kernel
theorem dX9_test_54 : decode cX9_test 54 = .ok (.iconst 0, 1) := by decide +kernel
theorem dX9_test_55 : decode cX9_test 55 = .ok (.ireturn, 1) := by decide +kernel
theorem dX9_test_56 : decode cX9_test 56 = .ok (.aload_n 0, 1) := by decide +kernel
theorem dX9_test_57 : decode cX9_test 57 = .ok (.iconst 2, 1) := by decide +kernel
theorem dX9_test_58 : decode cX9_test 58 = .ok (.iload_n 2, 1) := by decide +kernel
theorem dX9_test_59 : decode cX9_test 59 = .ok (.invokevirtual 264, 3) := by decide +kernel
theorem dX9_test_62 : decode cX9_test 62 = .ok (.iconst 1, 1) := by decide +kernel
theorem dX9_test_63 : decode cX9_test 63 = .ok (.ireturn, 1) := by decide +kernel
theorem dX9_sum_0 : decode cX9_sum 0 = .ok (.aload_n 0, 1) := by decide +kernel
theorem dX9_sum_1 : decode cX9_sum 1 = .ok (.iload_n 1, 1) := by decide +kernel
theorem dX9_sum_2 : decode cX9_sum 2 = .ok (.invokevirtual 274, 3) := by decide +kernel
theorem dX9_sum_5 : decode cX9_sum 5 = .ok (.ifCond .ne 5, 3) := by decide +kernel
theorem dX9_sum_8 : decode cX9_sum 8 = .ok (.iconst 0, 1) := by decide +kernel
theorem dX9_sum_9 : decode cX9_sum 9 = .ok (.ireturn, 1) := by decide +kernel
theorem dX9_sum_10 : decode cX9_sum 10 = .ok (.aload_n 0, 1) := by decide +kernel
theorem dX9_sum_11 : decode cX9_sum 11 = .ok (.bipush 43, 2) := by decide +kernel
theorem dX9_sum_13 : decode cX9_sum 13 = .ok (.invokevirtual 258, 3) := by decide +kernel
theorem dX9_sum_16 : decode cX9_sum 16 = .ok (.ifCond .ne 12, 3) := by decide +kernel
theorem dX9_sum_19 : decode cX9_sum 19 = .ok (.aload_n 0, 1) := by decide +kernel
theorem dX9_sum_20 : decode cX9_sum 20 = .ok (.bipush 45, 2) := by decide +kernel
theorem dX9_sum_22 : decode cX9_sum 22 = .ok (.invokevirtual 258, 3) := by decide +kernel
theorem dX9_sum_25 : decode cX9_sum 25 = .ok (.ifCond .eq 31, 3) := by decide +kernel
theorem dX9_sum_28 : decode cX9_sum 28 = .ok (.aload_n 0, 1) := by decide +kernel
theorem dX9_sum_29 : decode cX9_sum 29 = .ok (.getfield 232, 3) := by decide +kernel
theorem dX9_sum_32 : decode cX9_sum 32 = .ok (.istore_n 2, 1) := by decide +kernel
theorem dX9_sum_33 : decode cX9_sum 33 = .ok (.aload_n 0, 1) := by decide +kernel
theorem dX9_sum_34 : decode cX9_sum 34 = .ok (.invokevirtual 261, 3) := by decide +kernel
theorem dX9_sum_37 : decode cX9_sum 37 = .ok (.aload_n 0, 1) := by decide +kernel
theorem dX9_sum_38 : decode cX9_sum 38 = .ok (.iload_n 1, 1) := by decide +kernel
theorem dX9_sum_39 : decode cX9_sum 39 = .ok (.invokevirtual 274, 3) := by decide +kernel
theorem dX9_sum_42 : decode cX9_sum 42 = .ok (.ifCond .ne 5, 3) := by decide +kernel
theorem dX9_sum_45 : decode cX9_sum 45 = .ok (.iconst 0, 1) := by decide +kernel
theorem dX9_sum_46 : decode cX9_sum 46 = .ok (.ireturn, 1) := by decide +kernel
theorem dX9_sum_47 : decode cX9_sum 47 = .ok (.aload_n 0, 1) := by decide +kernel
theorem dX9_sum_48 : decode cX9_sum 48 = .ok (.iconst 2, 1) := by decide +kernel
theorem dX9_sum_49 : decode cX9_sum 49 = .ok (.iload_n 2, 1) := by decide +kernel
theorem dX9_sum_50 : decode cX9_sum 50 = .ok (.invokevirtual 264, 3) := by decide +kernel
theorem dX9_sum_53 : decode cX9_sum 53 = .ok (.goto (-43), 3) := by decide +kernel
theorem dX9_sum_56 : decode cX9_sum 56 = .ok (.iconst 1, 1) := by decide +kernel
theorem dX9_sum_57 : decode cX9_sum 57 = .ok (.ireturn, 1) := by decide +kernel
theorem dX9_term_0 : decode cX9_term 0 = .ok (.aload_n 0, 1) := by decide +kernel
theorem dX9_term_1 : decode cX9_term 1 = .ok (.iload_n 1, 1) := by decide +kernel
theorem dX9_term_2 : decode cX9_term 2 = .ok (.invokevirtual 277, 3) := by decide +kernel
theorem dX9_term_5 : decode cX9_term 5 = .ok (.ifCond .ne 5, 3) := by decide +kernel
theorem dX9_term_8 : decode cX9_term 8 = .ok (.iconst 0, 1) := by decide +kernel
theorem dX9_term_9 : decode cX9_term 9 = .ok (.ireturn, 1) := by decide +kernel
theorem dX9_term_10 : decode cX9_term 10 = .ok (.aload_n 0, 1) := by decide +kernel
theorem dX9_term_11 : decode cX9_term 11 = .ok (.bipush 42, 2) := by decide +kernel
theorem dX9_term_13 : decode cX9_term 13 = .ok (.invokevirtual 258, 3) := by decide +kernel
theorem dX9_term_16 : decode cX9_term 16 = .ok (.ifCond .ne 12, 3) := by decide +kernel
theorem dX9_term_19 : decode cX9_term 19 = .ok (.aload_n 0, 1) := by decide +kernel
theorem dX9_term_20 : decode cX9_term 20 = .ok (.bipush 47, 2) := by decide +kernel
theorem dX9_term_22 : decode cX9_term 22 = .ok (.invokevirtual 258, 3) := by decide +kernel
theorem dX9_term_25 : decode cX9_term 25 = .ok (.ifCond .eq 31, 3) := by decide +kernel
theorem dX9_term_28 : decode cX9_term 28 = .ok (.aload_n 0, 1) := by decide +kernel
theorem dX9_term_29 : decode cX9_term 29 = .ok (.getfield 232, 3) := by decide +kernel
theorem dX9_term_32 : decode cX9_term 32 = .ok (.istore_n 2, 1) := by decide +kernel
theorem dX9_term_33 : decode cX9_term 33 = .ok (.aload_n 0, 1) := by decide +kernel
theorem dX9_term_34 : decode cX9_term 34 = .ok (.invokevirtual 261, 3) := by decide +kernel
theorem dX9_term_37 : decode cX9_term 37 = .ok (.aload_n 0, 1) := by decide +kernel
theorem dX9_term_38 : decode cX9_term 38 = .ok (.iload_n 1, 1) := by decide +kernel
theorem dX9_term_39 : decode cX9_term 39 = .ok (.invokevirtual 277, 3) := by decide +kernel
theorem dX9_term_42 : decode cX9_term 42 = .ok (.ifCond .ne 5, 3) := by decide +kernel
theorem dX9_term_45 : decode cX9_term 45 = .ok (.iconst 0, 1) := by decide +kernel
theorem dX9_term_46 : decode cX9_term 46 = .ok (.ireturn, 1) := by decide +kernel
theorem dX9_term_47 : decode cX9_term 47 = .ok (.aload_n 0, 1) := by decide +kernel
theorem dX9_term_48 : decode cX9_term 48 = .ok (.iconst 2, 1) := by decide +kernel
theorem dX9_term_49 : decode cX9_term 49 = .ok (.iload_n 2, 1) := by decide +kernel
theorem dX9_term_50 : decode cX9_term 50 = .ok (.invokevirtual 264, 3) := by decide +kernel
theorem dX9_term_53 : decode cX9_term 53 = .ok (.goto (-43), 3) := by decide +kernel
theorem dX9_term_56 : decode cX9_term 56 = .ok (.iconst 1, 1) := by decide +kernel
theorem dX9_term_57 : decode cX9_term 57 = .ok (.ireturn, 1) := by decide +kernel
theorem dX9_part0_0 : decode cX9_part0 0 = .ok (.aload_n 0, 1) := by decide +kernel
theorem dX9_part0_1 : decode cX9_part0 1 = .ok (.getfield 223, 3) := by decide +kernel
theorem dX9_part0_4 : decode cX9_part0 4 = .ok (.iconst 2, 1) := by decide +kernel
theorem dX9_part0_5 : decode cX9_part0 5 = .ok (.if_icmp .ne 28, 3) := by decide +kernel
theorem dX9_part0_8 : decode cX9_part0 8 = .ok (.aload_n 0, 1) := by decide +kernel
theorem dX9_part0_9 : decode cX9_part0 9 = .ok (.iconst 0, 1) := by decide +kernel
theorem dX9_part0_10 : decode cX9_part0 10 = .ok (.aload_n 0, 1) := by decide +kernel
theorem dX9_part0_11 : decode cX9_part0 11 = .ok (.getfield 238, 3) := by decide +kernel
theorem dX9_part0_14 : decode cX9_part0 14 = .ok (.invokevirtual 264, 3) := by decide +kernel
theorem dX9_part0_17 : decode cX9_part0 17 = .ok (.aload_n 0, 1) := by decide +kernel
theorem dX9_part0_18 : decode cX9_part0 18 = .ok (.dup, 1) := by decide +kernel
theorem dX9_part0_19 : decode cX9_part0 19 = .ok (.getfield 280, 3) := by decide +kernel
theorem dX9_part0_22 : decode cX9_part0 22 = .ok (.iconst 1, 1) := by decide +kernel
theorem dX9_part0_23 : decode cX9_part0 23 = .ok (.iadd, 1) := by decide +kernel
theorem dX9_part0_24 : decode cX9_part0 24 = .ok (.putfield 280, 3) := by decide +kernel
theorem dX9_part0_27 : decode cX9_part0 27 = .ok (.aload_n 0, 1) := by decide +kernel
theorem dX9_part0_28 : decode cX9_part0 28 = .ok (.invokevirtual 261, 3) := by decide +kernel
theorem dX9_part0_31 : decode cX9_part0 31 = .ok (.iconst 1, 1) := by decide +kernel
theorem dX9_part0_32 : decode cX9_part0 32 = .ok (.ireturn, 1) := by decide +kernel
theorem dX9_part0_33 : decode cX9_part0 33 = .ok (.aload_n 0, 1) := by decide +kernel
theorem dX9_part0_34 : decode cX9_part0 34 = .ok (.getfield 223, 3) := by decide +kernel
theorem dX9_part0_37 : decode cX9_part0 37 = .ok (.iconst 1, 1) := by decide +kernel
theorem dX9_part0_38 : decode cX9_part0 38 = .ok (.if_icmp .ne 46, 3) := by decide +kernel
theorem dX9_part0_41 : decode cX9_part0 41 = .ok (.aload_n 0, 1) := by decide +kernel
theorem dX9_part0_42 : decode cX9_part0 42 = .ok (.getfield 232, 3) := by decide +kernel
theorem dX9_part0_45 : decode cX9_part0 45 = .ok (.ifCond .eq 39, 3) := by decide +kernel
theorem dX9_part0_48 : decode cX9_part0 48 = .ok (.iload_n 1, 1) := by decide +kernel
theorem dX9_part0_49 : decode cX9_part0 49 = .ok (.aload_n 0, 1) := by decide +kernel
theorem dX9_part0_50 : decode cX9_part0 50 = .ok (.getfield 232, 3) := by decide +kernel
theorem dX9_part0_53 : decode cX9_part0 53 = .ok (.invokestatic 283, 3) := by decide +kernel
theorem dX9_part0_56 : decode cX9_part0 56 = .ok (.ifCond .eq 28, 3) := by decide +kernel
theorem dX9_part0_59 : decode cX9_part0 59 = .ok (.aload_n 0, 1) := by decide +kernel
theorem dX9_part0_60 : decode cX9_part0 60 = .ok (.iconst 1, 1) := by decide +kernel
theorem dX9_part0_61 : decode cX9_part0 61 = .ok (.aload_n 0, 1) := by decide +kernel
theorem dX9_part0_62 : decode cX9_part0 62 = .ok (.getfield 232, 3) := by decide +kernel
theorem dX9_part0_65 : decode cX9_part0 65 = .ok (.invokevirtual 264, 3) := by decide +kernel
theorem dX9_part0_68 : decode cX9_part0 68 = .ok (.aload_n 0, 1) := by decide +kernel
theorem dX9_part0_69 : decode cX9_part0 69 = .ok (.dup, 1) := by decide +kernel
theorem dX9_part0_70 : decode cX9_part0 70 = .ok (.getfield 280, 3) := by decide +kernel
theorem dX9_part0_73 : decode cX9_part0 73 = .ok (.iconst 1, 1) := by decide +kernel
theorem dX9_part0_74 : decode cX9_part0 74 = .ok (.iadd, 1) := by decide +kernel
theorem dX9_part0_75 : decode cX9_part0 75 = .ok (.putfield 280, 3) := by decide +kernel
theorem dX9_part0_78 : decode cX9_part0 78 = .ok (.aload_n 0, 1) := by decide +kernel
theorem dX9_part0_79 : decode cX9_part0 79 = .ok (.invokevirtual 261, 3) := by decide +kernel
theorem dX9_part0_82 : decode cX9_part0 82 = .ok (.iconst 1, 1) := by decide +kernel
theorem dX9_part0_83 : decode cX9_part0 83 = .ok (.ireturn, 1) := by decide +kernel
theorem dX9_part0_84 : decode cX9_part0 84 = .ok (.aload_n 0, 1) := by decide +kernel
theorem dX9_part0_85 : decode cX9_part0 85 = .ok (.bipush 33, 2) := by decide +kernel
theorem dX9_part0_87 : decode cX9_part0 87 = .ok (.invokevirtual 258, 3) := by decide +kernel
theorem dX9_part0_90 : decode cX9_part0 90 = .ok (.ifCond .eq 55, 3) := by decide +kernel
theorem dX9_part0_93 : decode cX9_part0 93 = .ok (.aload_n 0, 1) := by decide +kernel
theorem dX9_part0_94 : decode cX9_part0 94 = .ok (.getfield 286, 3) := by decide +kernel
theorem dX9_part0_97 : decode cX9_part0 97 = .ok (.bipush 8, 2) := by decide +kernel
theorem dX9_part0_99 : decode cX9_part0 99 = .ok (.if_icmp .ge 46, 3) := by decide +kernel
theorem dX9_part0_102 : decode cX9_part0 102 = .ok (.aload_n 0, 1) := by decide +kernel
theorem dX9_part0_103 : decode cX9_part0 103 = .ok (.dup, 1) := by decide +kernel
theorem dX9_part0_104 : decode cX9_part0 104 = .ok (.getfield 286, 3) := by decide +kernel
theorem dX9_part0_107 : decode cX9_part0 107 = .ok (.iconst 1, 1) := by decide +kernel
theorem dX9_part0_108 : decode cX9_part0 108 = .ok (.iadd, 1) := by decide +kernel
theorem dX9_part0_109 : decode cX9_part0 109 = .ok (.putfield 286, 3) := by decide +kernel
theorem dX9_part0_112 : decode cX9_part0 112 = .ok (.aload_n 0, 1) := by decide +kernel
theorem dX9_part0_113 : decode cX9_part0 113 = .ok (.invokevirtual 261, 3) := by decide +kernel
theorem dX9_part0_116 : decode cX9_part0 116 = .ok (.aload_n 0, 1) := by decide +kernel
theorem dX9_part0_117 : decode cX9_part0 117 = .ok (.iload_n 1, 1) := by decide +kernel
theorem dX9_part0_118 : decode cX9_part0 118 = .ok (.invokevirtual 277, 3) := by decide +kernel
theorem dX9_part0_121 : decode cX9_part0 121 = .ok (.ifCond .ne 5, 3) := by decide +kernel
theorem dX9_part0_124 : decode cX9_part0 124 = .ok (.iconst 0, 1) := by decide +kernel
theorem dX9_part0_125 : decode cX9_part0 125 = .ok (.ireturn, 1) := by decide +kernel
theorem dX9_part0_126 : decode cX9_part0 126 = .ok (.aload_n 0, 1) := by decide +kernel
theorem dX9_part0_127 : decode cX9_part0 127 = .ok (.dup, 1) := by decide +kernel
theorem dX9_part0_128 : decode cX9_part0 128 = .ok (.getfield 286, 3) := by decide +kernel
theorem dX9_part0_131 : decode cX9_part0 131 = .ok (.iconst 1, 1) := by decide +kernel
theorem dX9_part0_132 : decode cX9_part0 132 = .ok (.isub, 1) := by decide +kernel
theorem dX9_part0_133 : decode cX9_part0 133 = .ok (.putfield 286, 3) := by decide +kernel
theorem dX9_part0_136 : decode cX9_part0 136 = .ok (.aload_n 0, 1) := by decide +kernel
theorem dX9_part0_137 : decode cX9_part0 137 = .ok (.iconst 2, 1) := by decide +kernel
theorem dX9_part0_138 : decode cX9_part0 138 = .ok (.bipush 33, 2) := by decide +kernel
theorem dX9_part0_140 : decode cX9_part0 140 = .ok (.invokevirtual 264, 3) := by decide +kernel
theorem dX9_part0_143 : decode cX9_part0 143 = .ok (.iconst 1, 1) := by decide +kernel
theorem dX9_part0_144 : decode cX9_part0 144 = .ok (.ireturn, 1) := by decide +kernel
theorem dX9_part0_145 : decode cX9_part0 145 = .ok (.aload_n 0, 1) := by decide +kernel
theorem dX9_part0_146 : decode cX9_part0 146 = .ok (.bipush 40, 2) := by decide +kernel
theorem dX9_part0_148 : decode cX9_part0 148 = .ok (.invokevirtual 258, 3) := by decide +kernel
theorem dX9_part0_151 : decode cX9_part0 151 = .ok (.ifCond .eq 12, 3) := by decide +kernel
theorem dX9_part0_154 : decode cX9_part0 154 = .ok (.aload_n 0, 1) := by decide +kernel
theorem dX9_part0_155 : decode cX9_part0 155 = .ok (.getfield 289, 3) := by decide +kernel
theorem dX9_part0_158 : decode cX9_part0 158 = .ok (.bipush 8, 2) := by decide +kernel
theorem dX9_part0_160 : decode cX9_part0 160 = .ok (.if_icmp .ne 5, 3) := by decide +kernel
theorem dX9_part0_163 : decode cX9_part0 163 = .ok (.iconst 0, 1) := by decide +kernel
theorem dX9_part0_164 : decode cX9_part0 164 = .ok (.ireturn, 1) := by decide +kernel
theorem dX9_part0_165 : decode cX9_part0 165 = .ok (.aload_n 0, 1) := by decide +kernel
theorem dX9_part0_166 : decode cX9_part0 166 = .ok (.dup, 1) := by decide +kernel
theorem dX9_part0_167 : decode cX9_part0 167 = .ok (.getfield 289, 3) := by decide +kernel
theorem dX9_part0_170 : decode cX9_part0 170 = .ok (.iconst 1, 1) := by decide +kernel
theorem dX9_part0_171 : decode cX9_part0 171 = .ok (.iadd, 1) := by decide +kernel
theorem dX9_part0_172 : decode cX9_part0 172 = .ok (.putfield 289, 3) := by decide +kernel
theorem dX9_part0_175 : decode cX9_part0 175 = .ok (.aload_n 0, 1) := by decide +kernel
theorem dX9_part0_176 : decode cX9_part0 176 = .ok (.invokevirtual 261, 3) := by decide +kernel
theorem dX9_part0_179 : decode cX9_part0 179 = .ok (.aload_n 0, 1) := by decide +kernel
theorem dX9_part0_180 : decode cX9_part0 180 = .ok (.iload_n 1, 1) := by decide +kernel
theorem dX9_part0_181 : decode cX9_part0 181 = .ok (.invokevirtual 292, 3) := by decide +kernel
theorem dX9_part0_184 : decode cX9_part0 184 = .ok (.ifCond .eq 12, 3) := by decide +kernel
theorem dX9_part0_187 : decode cX9_part0 187 = .ok (.aload_n 0, 1) := by decide +kernel
theorem dX9_part0_188 : decode cX9_part0 188 = .ok (.bipush 41, 2) := by decide +kernel
theorem dX9_part0_190 : decode cX9_part0 190 = .ok (.invokevirtual 258, 3) := by decide +kernel
theorem dX9_part0_193 : decode cX9_part0 193 = .ok (.ifCond .ne 5, 3) := by decide +kernel
theorem dX9_part0_196 : decode cX9_part0 196 = .ok (.iconst 0, 1) := by decide +kernel
theorem dX9_part0_197 : decode cX9_part0 197 = .ok (.ireturn, 1) := by decide +kernel
theorem dX9_part0_198 : decode cX9_part0 198 = .ok (.aload_n 0, 1) := by decide +kernel
theorem dX9_part0_199 : decode cX9_part0 199 = .ok (.dup, 1) := by decide +kernel
theorem dX9_part0_200 : decode cX9_part0 200 = .ok (.getfield 289, 3) := by decide +kernel
theorem dX9_part0_203 : decode cX9_part0 203 = .ok (.iconst 1, 1) := by decide +kernel
theorem dX9_part0_204 : decode cX9_part0 204 = .ok (.isub, 1) := by decide +kernel
theorem dX9_part0_205 : decode cX9_part0 205 = .ok (.putfield 289, 3) := by decide +kernel
theorem dX9_part0_208 : decode cX9_part0 208 = .ok (.aload_n 0, 1) := by decide +kernel
theorem dX9_part0_209 : decode cX9_part0 209 = .ok (.invokevirtual 261, 3) := by decide +kernel
theorem dX9_part0_212 : decode cX9_part0 212 = .ok (.iconst 1, 1) := by decide +kernel
theorem dX9_part0_213 : decode cX9_part0 213 = .ok (.ireturn, 1) := by decide +kernel
theorem dX9_parse_0 : decode cX9_parse 0 = .ok (.aload_n 0, 1) := by decide +kernel
theorem dX9_parse_1 : decode cX9_parse 1 = .ok (.iconst 0, 1) := by decide +kernel
theorem dX9_parse_2 : decode cX9_parse 2 = .ok (.putfield 220, 3) := by decide +kernel
theorem dX9_parse_5 : decode cX9_parse 5 = .ok (.aload_n 0, 1) := by decide +kernel
theorem dX9_parse_6 : decode cX9_parse 6 = .ok (.iconst 3, 1) := by decide +kernel
theorem dX9_parse_7 : decode cX9_parse 7 = .ok (.putfield 223, 3) := by decide +kernel
theorem dX9_parse_10 : decode cX9_parse 10 = .ok (.aload_n 0, 1) := by decide +kernel
theorem dX9_parse_11 : decode cX9_parse 11 = .ok (.iconst 0, 1) := by decide +kernel
theorem dX9_parse_12 : decode cX9_parse 12 = .ok (.putfield 289, 3) := by decide +kernel
theorem dX9_parse_15 : decode cX9_parse 15 = .ok (.aload_n 0, 1) := by decide +kernel
theorem dX9_parse_16 : decode cX9_parse 16 = .ok (.iconst 0, 1) := by decide +kernel
theorem dX9_parse_17 : decode cX9_parse 17 = .ok (.putfield 286, 3) := by decide +kernel
theorem dX9_parse_20 : decode cX9_parse 20 = .ok (.aload_n 0, 1) := by decide +kernel
theorem dX9_parse_21 : decode cX9_parse 21 = .ok (.iconst 0, 1) := by decide +kernel
theorem dX9_parse_22 : decode cX9_parse 22 = .ok (.putfield 252, 3) := by decide +kernel
theorem dX9_parse_25 : decode cX9_parse 25 = .ok (.aload_n 0, 1) := by decide +kernel
theorem dX9_parse_26 : decode cX9_parse 26 = .ok (.iconst 0, 1) := by decide +kernel
theorem dX9_parse_27 : decode cX9_parse 27 = .ok (.putfield 280, 3) := by decide +kernel
theorem dX9_parse_30 : decode cX9_parse 30 = .ok (.aload_n 0, 1) := by decide +kernel
theorem dX9_parse_31 : decode cX9_parse 31 = .ok (.aload_n 0, 1) := by decide +kernel
theorem dX9_parse_32 : decode cX9_parse 32 = .ok (.getfield 7, 3) := by decide +kernel
theorem dX9_parse_35 : decode cX9_parse 35 = .ok (.iconst 2, 1) := by decide +kernel
theorem dX9_parse_36 : decode cX9_parse 36 = .ok (.iaload, 1) := by decide +kernel
theorem dX9_parse_37 : decode cX9_parse 37 = .ok (.bipush 14, 2) := by decide +kernel
theorem dX9_parse_39 : decode cX9_parse 39 = .ok (.if_icmp .ge 18, 3) := by decide +kernel
theorem dX9_parse_42 : decode cX9_parse 42 = .ok (.aload_n 0, 1) := by decide +kernel
theorem dX9_parse_43 : decode cX9_parse 43 = .ok (.aload_n 0, 1) := by decide +kernel
theorem dX9_parse_44 : decode cX9_parse 44 = .ok (.getfield 7, 3) := by decide +kernel
theorem dX9_parse_47 : decode cX9_parse 47 = .ok (.iconst 2, 1) := by decide +kernel
theorem dX9_parse_48 : decode cX9_parse 48 = .ok (.iaload, 1) := by decide +kernel
theorem dX9_parse_49 : decode cX9_parse 49 = .ok (.invokevirtual 295, 3) := by decide +kernel
theorem dX9_parse_52 : decode cX9_parse 52 = .ok (.iconst 4, 1) := by decide +kernel
theorem dX9_parse_53 : decode cX9_parse 53 = .ok (.iadd, 1) := by decide +kernel
theorem dX9_parse_54 : decode cX9_parse 54 = .ok (.goto 6, 3) := by decide +kernel
theorem dX9_parse_57 : decode cX9_parse 57 = .ok (.sipush 2888, 3) := by decide +kernel
theorem dX9_parse_60 : decode cX9_parse 60 = .ok (.putfield 249, 3) := by decide +kernel
theorem dX9_parse_63 : decode cX9_parse 63 = .ok (.aload_n 0, 1) := by decide +kernel
theorem dX9_parse_64 : decode cX9_parse 64 = .ok (.invokevirtual 261, 3) := by decide +kernel
theorem dX9_parse_67 : decode cX9_parse 67 = .ok (.aload_n 0, 1) := by decide +kernel
theorem dX9_parse_68 : decode cX9_parse 68 = .ok (.invokevirtual 298, 3) := by decide +kernel
theorem dX9_parse_71 : decode cX9_parse 71 = .ok (.istore_n 1, 1) := by decide +kernel
theorem dX9_parse_72 : decode cX9_parse 72 = .ok (.iload_n 1, 1) := by decide +kernel
theorem dX9_parse_73 : decode cX9_parse 73 = .ok (.ifCond .lt 7, 3) := by decide +kernel
theorem dX9_parse_76 : decode cX9_parse 76 = .ok (.iconst 1, 1) := by decide +kernel
theorem dX9_parse_77 : decode cX9_parse 77 = .ok (.goto 4, 3) := by decide +kernel
theorem dX9_parse_80 : decode cX9_parse 80 = .ok (.iconst 0, 1) := by decide +kernel
theorem dX9_parse_81 : decode cX9_parse 81 = .ok (.istore_n 2, 1) := by decide +kernel
theorem dX9_parse_82 : decode cX9_parse 82 = .ok (.iload_n 2, 1) := by decide +kernel
theorem dX9_parse_83 : decode cX9_parse 83 = .ok (.ifCond .eq 28, 3) := by decide +kernel
theorem dX9_parse_86 : decode cX9_parse 86 = .ok (.aload_n 0, 1) := by decide +kernel
theorem dX9_parse_87 : decode cX9_parse 87 = .ok (.invokevirtual 261, 3) := by decide +kernel
theorem dX9_parse_90 : decode cX9_parse 90 = .ok (.aload_n 0, 1) := by decide +kernel
theorem dX9_parse_91 : decode cX9_parse 91 = .ok (.iload_n 1, 1) := by decide +kernel
theorem dX9_parse_92 : decode cX9_parse 92 = .ok (.invokevirtual 292, 3) := by decide +kernel
theorem dX9_parse_95 : decode cX9_parse 95 = .ok (.ifCond .eq 14, 3) := by decide +kernel
theorem dX9_parse_98 : decode cX9_parse 98 = .ok (.aload_n 0, 1) := by decide +kernel
theorem dX9_parse_99 : decode cX9_parse 99 = .ok (.getfield 223, 3) := by decide +kernel
theorem dX9_parse_102 : decode cX9_parse 102 = .ok (.ifCond .ne 7, 3) := by decide +kernel
theorem dX9_parse_105 : decode cX9_parse 105 = .ok (.iconst 1, 1) := by decide +kernel
theorem dX9_parse_106 : decode cX9_parse 106 = .ok (.goto 4, 3) := by decide +kernel
theorem dX9_parse_109 : decode cX9_parse 109 = .ok (.iconst 0, 1) := by decide +kernel
theorem dX9_parse_110 : decode cX9_parse 110 = .ok (.istore_n 2, 1) := by decide +kernel
theorem dX9_parse_111 : decode cX9_parse 111 = .ok (.aload_n 0, 1) := by decide +kernel
theorem dX9_parse_112 : decode cX9_parse 112 = .ok (.iconst 0, 1) := by decide +kernel
theorem dX9_parse_113 : decode cX9_parse 113 = .ok (.putfield 209, 3) := by decide +kernel
theorem dX9_parse_116 : decode cX9_parse 116 = .ok (.iload_n 2, 1) := by decide +kernel
theorem dX9_parse_117 : decode cX9_parse 117 = .ok (.ifCond .eq 7, 3) := by decide +kernel
theorem dX9_parse_120 : decode cX9_parse 120 = .ok (.iload_n 1, 1) := by decide +kernel
theorem dX9_parse_121 : decode cX9_parse 121 = .ok (.goto 4, 3) := by decide +kernel
theorem dX9_parse_124 : decode cX9_parse 124 = .ok (.iconst (-1), 1) := by decide +kernel
theorem dX9_parse_125 : decode cX9_parse 125 = .ok (.ireturn, 1) := by decide +kernel
theorem dX9_text_0 : decode cX9_text 0 = .ok (.aload_n 0, 1) := by decide +kernel
theorem dX9_text_1 : decode cX9_text 1 = .ok (.invokevirtual 301, 3) := by decide +kernel
theorem dX9_text_4 : decode cX9_text 4 = .ok (.istore_n 1, 1) := by decide +kernel
theorem dX9_text_5 : decode cX9_text 5 = .ok (.iload_n 1, 1) := by decide +kernel
theorem dX9_text_6 : decode cX9_text 6 = .ok (.ifCond .ge 11, 3) := by decide +kernel
theorem dX9_text_9 : decode cX9_text 9 = .ok (.bipush (-100), 2) := by decide +kernel
theorem dX9_text_11 : decode cX9_text 11 = .ok (.aload_n 0, 1) := by decide +kernel
theorem dX9_text_12 : decode cX9_text 12 = .ok (.getfield 226, 3) := by decide +kernel
theorem dX9_text_15 : decode cX9_text 15 = .ok (.isub, 1) := by decide +kernel
theorem dX9_text_16 : decode cX9_text 16 = .ok (.ireturn, 1) := by decide +kernel
theorem dX9_text_17 : decode cX9_text 17 = .ok (.aload_n 0, 1) := by decide +kernel
theorem dX9_text_18 : decode cX9_text 18 = .ok (.getfield 7, 3) := by decide +kernel
theorem dX9_text_21 : decode cX9_text 21 = .ok (.iconst 2, 1) := by decide +kernel
theorem dX9_text_22 : decode cX9_text 22 = .ok (.iaload, 1) := by decide +kernel
theorem dX9_text_23 : decode cX9_text 23 = .ok (.bipush 14, 2) := by decide +kernel
theorem dX9_text_25 : decode cX9_text 25 = .ok (.if_icmp .ne 6, 3) := by decide +kernel
theorem dX9_text_28 : decode cX9_text 28 = .ok (.ldc 73, 2) := by decide +kernel
theorem dX9_text_30 : decode cX9_text 30 = .ok (.ireturn, 1) := by decide +kernel
theorem dX9_text_31 : decode cX9_text 31 = .ok (.aload_n 0, 1) := by decide +kernel
theorem dX9_text_32 : decode cX9_text 32 = .ok (.aload_n 0, 1) := by decide +kernel
theorem dX9_text_33 : decode cX9_text 33 = .ok (.getfield 7, 3) := by decide +kernel
theorem dX9_text_36 : decode cX9_text 36 = .ok (.iconst 2, 1) := by decide +kernel
theorem dX9_text_37 : decode cX9_text 37 = .ok (.iaload, 1) := by decide +kernel
theorem dX9_text_38 : decode cX9_text 38 = .ok (.invokevirtual 295, 3) := by decide +kernel
theorem dX9_text_41 : decode cX9_text 41 = .ok (.istore_n 2, 1) := by decide +kernel
theorem dX9_text_42 : decode cX9_text 42 = .ok (.aload_n 0, 1) := by decide +kernel
theorem dX9_text_43 : decode cX9_text 43 = .ok (.getfield 7, 3) := by decide +kernel
theorem dX9_text_46 : decode cX9_text 46 = .ok (.iload_n 2, 1) := by decide +kernel
theorem dX9_text_47 : decode cX9_text 47 = .ok (.iconst 0, 1) := by decide +kernel
theorem dX9_text_48 : decode cX9_text 48 = .ok (.iadd, 1) := by decide +kernel
theorem dX9_text_49 : decode cX9_text 49 = .ok (.iload_n 1, 1) := by decide +kernel
theorem dX9_text_50 : decode cX9_text 50 = .ok (.iastore, 1) := by decide +kernel
theorem dX9_text_51 : decode cX9_text 51 = .ok (.aload_n 0, 1) := by decide +kernel
theorem dX9_text_52 : decode cX9_text 52 = .ok (.getfield 7, 3) := by decide +kernel
theorem dX9_text_55 : decode cX9_text 55 = .ok (.iload_n 2, 1) := by decide +kernel
theorem dX9_text_56 : decode cX9_text 56 = .ok (.iconst 1, 1) := by decide +kernel
theorem dX9_text_57 : decode cX9_text 57 = .ok (.iadd, 1) := by decide +kernel
theorem dX9_text_58 : decode cX9_text 58 = .ok (.aload_n 0, 1) := by decide +kernel
theorem dX9_text_59 : decode cX9_text 59 = .ok (.getfield 280, 3) := by decide +kernel
theorem dX9_text_62 : decode cX9_text 62 = .ok (.iastore, 1) := by decide +kernel
theorem dX9_text_63 : decode cX9_text 63 = .ok (.aload_n 0, 1) := by decide +kernel
theorem dX9_text_64 : decode cX9_text 64 = .ok (.getfield 7, 3) := by decide +kernel
theorem dX9_text_67 : decode cX9_text 67 = .ok (.iload_n 2, 1) := by decide +kernel
theorem dX9_text_68 : decode cX9_text 68 = .ok (.iconst 2, 1) := by decide +kernel
theorem dX9_text_69 : decode cX9_text 69 = .ok (.iadd, 1) := by decide +kernel
theorem dX9_text_70 : decode cX9_text 70 = .ok (.aload_n 0, 1) := by decide +kernel
theorem dX9_text_71 : decode cX9_text 71 = .ok (.getfield 252, 3) := by decide +kernel
theorem dX9_text_74 : decode cX9_text 74 = .ok (.iastore, 1) := by decide +kernel
theorem dX9_text_75 : decode cX9_text 75 = .ok (.aload_n 0, 1) := by decide +kernel
theorem dX9_text_76 : decode cX9_text 76 = .ok (.getfield 7, 3) := by decide +kernel
theorem dX9_text_79 : decode cX9_text 79 = .ok (.iconst 2, 1) := by decide +kernel
theorem dX9_text_80 : decode cX9_text 80 = .ok (.dup2, 1) := by decide +kernel
theorem dX9_text_81 : decode cX9_text 81 = .ok (.iaload, 1) := by decide +kernel
theorem dX9_text_82 : decode cX9_text 82 = .ok (.iconst 1, 1) := by decide +kernel
theorem dX9_text_83 : decode cX9_text 83 = .ok (.iadd, 1) := by decide +kernel
theorem dX9_text_84 : decode cX9_text 84 = .ok (.iastore, 1) := by decide +kernel
theorem dX9_text_85 : decode cX9_text 85 = .ok (.aload_n 0, 1) := by decide +kernel
theorem dX9_text_86 : decode cX9_text 86 = .ok (.getfield 7, 3) := by decide +kernel
theorem dX9_text_89 : decode cX9_text 89 = .ok (.iconst 2, 1) := by decide +kernel
theorem dX9_text_90 : decode cX9_text 90 = .ok (.iaload, 1) := by decide +kernel
theorem dX9_text_91 : decode cX9_text 91 = .ok (.iconst 1, 1) := by decide +kernel
theorem dX9_text_92 : decode cX9_text 92 = .ok (.isub, 1) := by decide +kernel
theorem dX9_text_93 : decode cX9_text 93 = .ok (.ireturn, 1) := by decide +kernel
theorem dX9_textTold_0 : decode cX9_textTold 0 = .ok (.aload_n 0, 1) := by decide +kernel
theorem dX9_textTold_1 : decode cX9_textTold 1 = .ok (.iload_n 1, 1) := by decide +kernel
theorem dX9_textTold_2 : decode cX9_textTold 2 = .ok (.invokevirtual 304, 3) := by decide +kernel
theorem dX9_textTold_5 : decode cX9_textTold 5 = .ok (.ifCond .eq 13, 3) := by decide +kernel
theorem dX9_textTold_8 : decode cX9_textTold 8 = .ok (.iload_n 2, 1) := by decide +kernel
theorem dX9_textTold_9 : decode cX9_textTold 9 = .ok (.i2l, 1) := by decide +kernel
theorem dX9_textTold_10 : decode cX9_textTold 10 = .ok (.lconst 0, 1) := by decide +kernel
theorem dX9_textTold_11 : decode cX9_textTold 11 = .ok (.lconst 1, 1) := by decide +kernel
theorem dX9_textTold_12 : decode cX9_textTold 12 = .ok (.invokestatic 65, 3) := by decide +kernel
theorem dX9_textTold_15 : decode cX9_textTold 15 = .ok (.ifCond .ne 6, 3) := by decide +kernel
theorem dX9_textTold_18 : decode cX9_textTold 18 = .ok (.ldc 72, 2) := by decide +kernel
theorem dX9_textTold_20 : decode cX9_textTold 20 = .ok (.ireturn, 1) := by decide +kernel
theorem dX9_textTold_21 : decode cX9_textTold 21 = .ok (.aload_n 0, 1) := by decide +kernel
theorem dX9_textTold_22 : decode cX9_textTold 22 = .ok (.getfield 7, 3) := by decide +kernel
theorem dX9_textTold_25 : decode cX9_textTold 25 = .ok (.aload_n 0, 1) := by decide +kernel
theorem dX9_textTold_26 : decode cX9_textTold 26 = .ok (.iload_n 1, 1) := by decide +kernel
theorem dX9_textTold_27 : decode cX9_textTold 27 = .ok (.invokevirtual 295, 3) := by decide +kernel
theorem dX9_textTold_30 : decode cX9_textTold 30 = .ok (.iload_n 2, 1) := by decide +kernel
theorem dX9_textTold_31 : decode cX9_textTold 31 = .ok (.iadd, 1) := by decide +kernel
theorem dX9_textTold_32 : decode cX9_textTold 32 = .ok (.iaload, 1) := by decide +kernel
theorem dX9_textTold_33 : decode cX9_textTold 33 = .ok (.ireturn, 1) := by decide +kernel
theorem dX9_counts_0 : decode cX9_counts 0 = .ok (.iconst (-1), 1) := by decide +kernel
theorem dX9_counts_1 : decode cX9_counts 1 = .ok (.istore_n 2, 1) := by decide +kernel
theorem dX9_counts_2 : decode cX9_counts 2 = .ok (.iconst 0, 1) := by decide +kernel
theorem dX9_counts_3 : decode cX9_counts 3 = .ok (.istore_n 3, 1) := by decide +kernel
theorem dX9_counts_4 : decode cX9_counts 4 = .ok (.iload_n 3, 1) := by decide +kernel
theorem dX9_counts_5 : decode cX9_counts 5 = .ok (.aload_n 0, 1) := by decide +kernel
theorem dX9_counts_6 : decode cX9_counts 6 = .ok (.getfield 7, 3) := by decide +kernel
theorem dX9_counts_9 : decode cX9_counts 9 = .ok (.iconst 2, 1) := by decide +kernel
theorem dX9_counts_10 : decode cX9_counts 10 = .ok (.iaload, 1) := by decide +kernel
theorem dX9_counts_11 : decode cX9_counts 11 = .ok (.if_icmp .ge 29, 3) := by decide +kernel
theorem dX9_counts_14 : decode cX9_counts 14 = .ok (.aload_n 0, 1) := by decide +kernel
theorem dX9_counts_15 : decode cX9_counts 15 = .ok (.getfield 7, 3) := by decide +kernel
theorem dX9_counts_18 : decode cX9_counts 18 = .ok (.aload_n 0, 1) := by decide +kernel
theorem dX9_counts_19 : decode cX9_counts 19 = .ok (.iload_n 3, 1) := by decide +kernel
theorem dX9_counts_20 : decode cX9_counts 20 = .ok (.invokevirtual 295, 3) := by decide +kernel
theorem dX9_counts_23 : decode cX9_counts 23 = .ok (.iaload, 1) := by decide +kernel
theorem dX9_counts_24 : decode cX9_counts 24 = .ok (.iload_n 1, 1) := by decide +kernel
theorem dX9_counts_25 : decode cX9_counts 25 = .ok (.if_icmp .ne 7, 3) := by decide +kernel
theorem dX9_counts_28 : decode cX9_counts 28 = .ok (.iload_n 3, 1) := by decide +kernel
theorem dX9_counts_29 : decode cX9_counts 29 = .ok (.goto 4, 3) := by decide +kernel
theorem dX9_counts_32 : decode cX9_counts 32 = .ok (.iload_n 2, 1) := by decide +kernel
theorem dX9_counts_33 : decode cX9_counts 33 = .ok (.istore_n 2, 1) := by decide +kernel
theorem dX9_counts_34 : decode cX9_counts 34 = .ok (.iinc 3 1, 3) := by decide +kernel
theorem dX9_counts_37 : decode cX9_counts 37 = .ok (.goto (-33), 3) := by decide +kernel
theorem dX9_counts_40 : decode cX9_counts 40 = .ok (.iload_n 2, 1) := by decide +kernel
theorem dX9_counts_41 : decode cX9_counts 41 = .ok (.ireturn, 1) := by decide +kernel
theorem dX9_why_0 : decode cX9_why 0 = .ok (.iload_n 1, 1) := by decide +kernel
theorem dX9_why_1 : decode cX9_why 1 = .ok (.i2l, 1) := by decide +kernel
theorem dX9_why_2 : decode cX9_why 2 = .ok (.lconst 0, 1) := by decide +kernel
theorem dX9_why_3 : decode cX9_why 3 = .ok (.ldc2_w 110, 3) := by decide +kernel
theorem dX9_why_6 : decode cX9_why 6 = .ok (.invokestatic 65, 3) := by decide +kernel
theorem dX9_why_9 : decode cX9_why 9 = .ok (.ifCond .eq 14, 3) := by decide +kernel
theorem dX9_why_12 : decode cX9_why 12 = .ok (.aload_n 0, 1) := by decide +kernel
theorem dX9_why_13 : decode cX9_why 13 = .ok (.iload_n 1, 1) := by decide +kernel
theorem dX9_why_14 : decode cX9_why 14 = .ok (.invokevirtual 82, 3) := by decide +kernel
theorem dX9_why_17 : decode cX9_why 17 = .ok (.invokestatic 179, 3) := by decide +kernel
theorem dX9_why_20 : decode cX9_why 20 = .ok (.goto 5, 3) := by decide +kernel
theorem dX9_why_23 : decode cX9_why 23 = .ok (.ldc 72, 2) := by decide +kernel
theorem dX9_why_25 : decode cX9_why 25 = .ok (.ireturn, 1) := by decide +kernel
theorem dX9_joined_0 : decode cX9_joined 0 = .ok (.iload_n 0, 1) := by decide +kernel
theorem dX9_joined_1 : decode cX9_joined 1 = .ok (.tableswitch 196 38 62 #[182, 196, 196, 196, 123, 115, 196, 119, 196, 127, 196, 196, 196, 196, 196, 196, 196, 196, 196, 196, 196, 196, 149, 171, 160], 115) := by decide +kernel
theorem dX9_joined_116 : decode cX9_joined 116 = .ok (.iload_n 1, 1) := by decide +kernel
theorem dX9_joined_117 : decode cX9_joined 117 = .ok (.iload_n 2, 1) := by decide +kernel
theorem dX9_joined_118 : decode cX9_joined 118 = .ok (.iadd, 1) := by decide +kernel
theorem dX9_joined_119 : decode cX9_joined 119 = .ok (.ireturn, 1) := by decide +kernel
theorem dX9_joined_120 : decode cX9_joined 120 = .ok (.iload_n 1, 1) := by decide +kernel
theorem dX9_joined_121 : decode cX9_joined 121 = .ok (.iload_n 2, 1) := by decide +kernel
theorem dX9_joined_122 : decode cX9_joined 122 = .ok (.isub, 1) := by decide +kernel
theorem dX9_joined_123 : decode cX9_joined 123 = .ok (.ireturn, 1) := by decide +kernel
theorem dX9_joined_124 : decode cX9_joined 124 = .ok (.iload_n 1, 1) := by decide +kernel
theorem dX9_joined_125 : decode cX9_joined 125 = .ok (.iload_n 2, 1) := by decide +kernel
theorem dX9_joined_126 : decode cX9_joined 126 = .ok (.imul, 1) := by decide +kernel
theorem dX9_joined_127 : decode cX9_joined 127 = .ok (.ireturn, 1) := by decide +kernel
theorem dX9_joined_128 : decode cX9_joined 128 = .ok (.iload_n 2, 1) := by decide +kernel
theorem dX9_joined_129 : decode cX9_joined 129 = .ok (.ifCond .ne 7, 3) := by decide +kernel
theorem dX9_joined_132 : decode cX9_joined 132 = .ok (.iconst 0, 1) := by decide +kernel
theorem dX9_joined_133 : decode cX9_joined 133 = .ok (.goto 16, 3) := by decide +kernel
theorem dX9_joined_136 : decode cX9_joined 136 = .ok (.iload_n 2, 1) := by decide +kernel
theorem dX9_joined_137 : decode cX9_joined 137 = .ok (.iconst (-1), 1) := by decide +kernel
theorem dX9_joined_138 : decode cX9_joined 138 = .ok (.if_icmp .ne 8, 3) := by decide +kernel
theorem dX9_joined_141 : decode cX9_joined 141 = .ok (.iload_n 1, 1) := by decide +kernel
theorem dX9_joined_142 : decode cX9_joined 142 = .ok (.ineg, 1) := by decide +kernel
theorem dX9_joined_143 : decode cX9_joined 143 = .ok (.goto 6, 3) := by decide +kernel
theorem dX9_joined_146 : decode cX9_joined 146 = .ok (.iload_n 1, 1) := by decide +kernel
theorem dX9_joined_147 : decode cX9_joined 147 = .ok (.iload_n 2, 1) := by decide +kernel
theorem dX9_joined_148 : decode cX9_joined 148 = .ok (.idiv, 1) := by decide +kernel
theorem dX9_joined_149 : decode cX9_joined 149 = .ok (.ireturn, 1) := by decide +kernel
theorem dX9_joined_150 : decode cX9_joined 150 = .ok (.iload_n 1, 1) := by decide +kernel
theorem dX9_joined_151 : decode cX9_joined 151 = .ok (.iload_n 2, 1) := by decide +kernel
theorem dX9_joined_152 : decode cX9_joined 152 = .ok (.if_icmp .ge 7, 3) := by decide +kernel
theorem dX9_joined_155 : decode cX9_joined 155 = .ok (.iconst 1, 1) := by decide +kernel
theorem dX9_joined_156 : decode cX9_joined 156 = .ok (.goto 4, 3) := by decide +kernel
theorem dX9_joined_159 : decode cX9_joined 159 = .ok (.iconst 0, 1) := by decide +kernel
theorem dX9_joined_160 : decode cX9_joined 160 = .ok (.ireturn, 1) := by decide +kernel
theorem dX9_joined_161 : decode cX9_joined 161 = .ok (.iload_n 1, 1) := by decide +kernel
theorem dX9_joined_162 : decode cX9_joined 162 = .ok (.iload_n 2, 1) := by decide +kernel
theorem dX9_joined_163 : decode cX9_joined 163 = .ok (.if_icmp .le 7, 3) := by decide +kernel
theorem dX9_joined_166 : decode cX9_joined 166 = .ok (.iconst 1, 1) := by decide +kernel
theorem dX9_joined_167 : decode cX9_joined 167 = .ok (.goto 4, 3) := by decide +kernel
theorem dX9_joined_170 : decode cX9_joined 170 = .ok (.iconst 0, 1) := by decide +kernel
theorem dX9_joined_171 : decode cX9_joined 171 = .ok (.ireturn, 1) := by decide +kernel
theorem dX9_joined_172 : decode cX9_joined 172 = .ok (.iload_n 1, 1) := by decide +kernel
theorem dX9_joined_173 : decode cX9_joined 173 = .ok (.iload_n 2, 1) := by decide +kernel
theorem dX9_joined_174 : decode cX9_joined 174 = .ok (.if_icmp .ne 7, 3) := by decide +kernel
theorem dX9_joined_177 : decode cX9_joined 177 = .ok (.iconst 1, 1) := by decide +kernel
theorem dX9_joined_178 : decode cX9_joined 178 = .ok (.goto 4, 3) := by decide +kernel
theorem dX9_joined_181 : decode cX9_joined 181 = .ok (.iconst 0, 1) := by decide +kernel
theorem dX9_joined_182 : decode cX9_joined 182 = .ok (.ireturn, 1) := by decide +kernel
theorem dX9_joined_183 : decode cX9_joined 183 = .ok (.iload_n 1, 1) := by decide +kernel
theorem dX9_joined_184 : decode cX9_joined 184 = .ok (.ifCond .eq 11, 3) := by decide +kernel
theorem dX9_joined_187 : decode cX9_joined 187 = .ok (.iload_n 2, 1) := by decide +kernel
theorem dX9_joined_188 : decode cX9_joined 188 = .ok (.ifCond .eq 7, 3) := by decide +kernel
theorem dX9_joined_191 : decode cX9_joined 191 = .ok (.iconst 1, 1) := by decide +kernel
theorem dX9_joined_192 : decode cX9_joined 192 = .ok (.goto 4, 3) := by decide +kernel
theorem dX9_joined_195 : decode cX9_joined 195 = .ok (.iconst 0, 1) := by decide +kernel
theorem dX9_joined_196 : decode cX9_joined 196 = .ok (.ireturn, 1) := by decide +kernel
theorem dX9_joined_197 : decode cX9_joined 197 = .ok (.iload_n 1, 1) := by decide +kernel
theorem dX9_joined_198 : decode cX9_joined 198 = .ok (.ifCond .ne 7, 3) := by decide +kernel
theorem dX9_joined_201 : decode cX9_joined 201 = .ok (.iload_n 2, 1) := by decide +kernel
theorem dX9_joined_202 : decode cX9_joined 202 = .ok (.ifCond .eq 7, 3) := by decide +kernel
theorem dX9_joined_205 : decode cX9_joined 205 = .ok (.iconst 1, 1) := by decide +kernel
theorem dX9_joined_206 : decode cX9_joined 206 = .ok (.goto 4, 3) := by decide +kernel
theorem dX9_joined_209 : decode cX9_joined 209 = .ok (.iconst 0, 1) := by decide +kernel
theorem dX9_joined_210 : decode cX9_joined 210 = .ok (.ireturn, 1) := by decide +kernel
theorem dX9_worked_0 : decode cX9_worked 0 = .ok (.iconst 0, 1) := by decide +kernel
theorem dX9_worked_1 : decode cX9_worked 1 = .ok (.istore_n 2, 1) := by decide +kernel
theorem dX9_worked_2 : decode cX9_worked 2 = .ok (.iconst 0, 1) := by decide +kernel
theorem dX9_worked_3 : decode cX9_worked 3 = .ok (.istore_n 3, 1) := by decide +kernel
theorem dX9_worked_4 : decode cX9_worked 4 = .ok (.iload_n 3, 1) := by decide +kernel
theorem dX9_worked_5 : decode cX9_worked 5 = .ok (.aload_n 0, 1) := by decide +kernel
theorem dX9_worked_6 : decode cX9_worked 6 = .ok (.getfield 7, 3) := by decide +kernel
theorem dX9_worked_9 : decode cX9_worked 9 = .ok (.aload_n 0, 1) := by decide +kernel
theorem dX9_worked_10 : decode cX9_worked 10 = .ok (.iload_n 1, 1) := by decide +kernel
theorem dX9_worked_11 : decode cX9_worked 11 = .ok (.invokevirtual 295, 3) := by decide +kernel
theorem dX9_worked_14 : decode cX9_worked 14 = .ok (.iconst 2, 1) := by decide +kernel
theorem dX9_worked_15 : decode cX9_worked 15 = .ok (.iadd, 1) := by decide +kernel
theorem dX9_worked_16 : decode cX9_worked 16 = .ok (.iaload, 1) := by decide +kernel
theorem dX9_worked_17 : decode cX9_worked 17 = .ok (.if_icmp .ge 146, 3) := by decide +kernel
theorem dX9_worked_20 : decode cX9_worked 20 = .ok (.aload_n 0, 1) := by decide +kernel
theorem dX9_worked_21 : decode cX9_worked 21 = .ok (.getfield 7, 3) := by decide +kernel
theorem dX9_worked_24 : decode cX9_worked 24 = .ok (.aload_n 0, 1) := by decide +kernel
theorem dX9_worked_25 : decode cX9_worked 25 = .ok (.iload_n 1, 1) := by decide +kernel
theorem dX9_worked_26 : decode cX9_worked 26 = .ok (.invokevirtual 295, 3) := by decide +kernel
theorem dX9_worked_29 : decode cX9_worked 29 = .ok (.iconst 4, 1) := by decide +kernel
theorem dX9_worked_30 : decode cX9_worked 30 = .ok (.iadd, 1) := by decide +kernel
theorem dX9_worked_31 : decode cX9_worked 31 = .ok (.iconst 2, 1) := by decide +kernel
theorem dX9_worked_32 : decode cX9_worked 32 = .ok (.iload_n 3, 1) := by decide +kernel
theorem dX9_worked_33 : decode cX9_worked 33 = .ok (.imul, 1) := by decide +kernel
theorem dX9_worked_34 : decode cX9_worked 34 = .ok (.iadd, 1) := by decide +kernel
theorem dX9_worked_35 : decode cX9_worked 35 = .ok (.iaload, 1) := by decide +kernel
theorem dX9_worked_36 : decode cX9_worked 36 = .ok (.istore 4, 2) := by decide +kernel
theorem dX9_worked_38 : decode cX9_worked 38 = .ok (.aload_n 0, 1) := by decide +kernel
theorem dX9_worked_39 : decode cX9_worked 39 = .ok (.getfield 7, 3) := by decide +kernel
theorem dX9_worked_42 : decode cX9_worked 42 = .ok (.aload_n 0, 1) := by decide +kernel
theorem dX9_worked_43 : decode cX9_worked 43 = .ok (.iload_n 1, 1) := by decide +kernel
theorem dX9_worked_44 : decode cX9_worked 44 = .ok (.invokevirtual 295, 3) := by decide +kernel
theorem dX9_worked_47 : decode cX9_worked 47 = .ok (.iconst 4, 1) := by decide +kernel
theorem dX9_worked_48 : decode cX9_worked 48 = .ok (.iadd, 1) := by decide +kernel
theorem dX9_worked_49 : decode cX9_worked 49 = .ok (.iconst 2, 1) := by decide +kernel
theorem dX9_worked_50 : decode cX9_worked 50 = .ok (.iload_n 3, 1) := by decide +kernel
theorem dX9_worked_51 : decode cX9_worked 51 = .ok (.imul, 1) := by decide +kernel
theorem dX9_worked_52 : decode cX9_worked 52 = .ok (.iadd, 1) := by decide +kernel
theorem dX9_worked_53 : decode cX9_worked 53 = .ok (.iconst 1, 1) := by decide +kernel
theorem dX9_worked_54 : decode cX9_worked 54 = .ok (.iadd, 1) := by decide +kernel
theorem dX9_worked_55 : decode cX9_worked 55 = .ok (.iaload, 1) := by decide +kernel
theorem dX9_worked_56 : decode cX9_worked 56 = .ok (.istore 5, 2) := by decide +kernel
theorem dX9_worked_58 : decode cX9_worked 58 = .ok (.iload 4, 2) := by decide +kernel
theorem dX9_worked_60 : decode cX9_worked 60 = .ok (.iconst 2, 1) := by decide +kernel
theorem dX9_worked_61 : decode cX9_worked 61 = .ok (.if_icmp .eq 32, 3) := by decide +kernel
theorem dX9_worked_64 : decode cX9_worked 64 = .ok (.aload_n 0, 1) := by decide +kernel
theorem dX9_worked_65 : decode cX9_worked 65 = .ok (.getfield 52, 3) := by decide +kernel
theorem dX9_worked_68 : decode cX9_worked 68 = .ok (.iload_n 2, 1) := by decide +kernel
theorem dX9_worked_69 : decode cX9_worked 69 = .ok (.iload 4, 2) := by decide +kernel
theorem dX9_worked_71 : decode cX9_worked 71 = .ok (.ifCond .ne 8, 3) := by decide +kernel
theorem dX9_worked_74 : decode cX9_worked 74 = .ok (.iload 5, 2) := by decide +kernel
theorem dX9_worked_76 : decode cX9_worked 76 = .ok (.goto 10, 3) := by decide +kernel
theorem dX9_worked_79 : decode cX9_worked 79 = .ok (.aload_n 0, 1) := by decide +kernel
theorem dX9_worked_80 : decode cX9_worked 80 = .ok (.getfield 49, 3) := by decide +kernel
theorem dX9_worked_83 : decode cX9_worked 83 = .ok (.iload 5, 2) := by decide +kernel
theorem dX9_worked_85 : decode cX9_worked 85 = .ok (.iaload, 1) := by decide +kernel
theorem dX9_worked_86 : decode cX9_worked 86 = .ok (.iastore, 1) := by decide +kernel
theorem dX9_worked_87 : decode cX9_worked 87 = .ok (.iinc 2 1, 3) := by decide +kernel
theorem dX9_worked_90 : decode cX9_worked 90 = .ok (.goto 67, 3) := by decide +kernel
theorem dX9_worked_93 : decode cX9_worked 93 = .ok (.iload 5, 2) := by decide +kernel
theorem dX9_worked_95 : decode cX9_worked 95 = .ok (.bipush 33, 2) := by decide +kernel
theorem dX9_worked_97 : decode cX9_worked 97 = .ok (.if_icmp .ne 30, 3) := by decide +kernel
theorem dX9_worked_100 : decode cX9_worked 100 = .ok (.aload_n 0, 1) := by decide +kernel
theorem dX9_worked_101 : decode cX9_worked 101 = .ok (.getfield 52, 3) := by decide +kernel
theorem dX9_worked_104 : decode cX9_worked 104 = .ok (.iload_n 2, 1) := by decide +kernel
theorem dX9_worked_105 : decode cX9_worked 105 = .ok (.iconst 1, 1) := by decide +kernel
theorem dX9_worked_106 : decode cX9_worked 106 = .ok (.isub, 1) := by decide +kernel
theorem dX9_worked_107 : decode cX9_worked 107 = .ok (.aload_n 0, 1) := by decide +kernel
theorem dX9_worked_108 : decode cX9_worked 108 = .ok (.getfield 52, 3) := by decide +kernel
theorem dX9_worked_111 : decode cX9_worked 111 = .ok (.iload_n 2, 1) := by decide +kernel
theorem dX9_worked_112 : decode cX9_worked 112 = .ok (.iconst 1, 1) := by decide +kernel
theorem dX9_worked_113 : decode cX9_worked 113 = .ok (.isub, 1) := by decide +kernel
theorem dX9_worked_114 : decode cX9_worked 114 = .ok (.iaload, 1) := by decide +kernel
theorem dX9_worked_115 : decode cX9_worked 115 = .ok (.ifCond .ne 7, 3) := by decide +kernel
theorem dX9_worked_118 : decode cX9_worked 118 = .ok (.iconst 1, 1) := by decide +kernel
theorem dX9_worked_119 : decode cX9_worked 119 = .ok (.goto 4, 3) := by decide +kernel
theorem dX9_worked_122 : decode cX9_worked 122 = .ok (.iconst 0, 1) := by decide +kernel
theorem dX9_worked_123 : decode cX9_worked 123 = .ok (.iastore, 1) := by decide +kernel
theorem dX9_worked_124 : decode cX9_worked 124 = .ok (.goto 33, 3) := by decide +kernel
theorem dX9_worked_127 : decode cX9_worked 127 = .ok (.iinc 2 (-1), 3) := by decide +kernel
theorem dX9_worked_130 : decode cX9_worked 130 = .ok (.aload_n 0, 1) := by decide +kernel
theorem dX9_worked_131 : decode cX9_worked 131 = .ok (.getfield 52, 3) := by decide +kernel
theorem dX9_worked_134 : decode cX9_worked 134 = .ok (.iload_n 2, 1) := by decide +kernel
theorem dX9_worked_135 : decode cX9_worked 135 = .ok (.iconst 1, 1) := by decide +kernel
theorem dX9_worked_136 : decode cX9_worked 136 = .ok (.isub, 1) := by decide +kernel
theorem dX9_worked_137 : decode cX9_worked 137 = .ok (.iload 5, 2) := by decide +kernel
theorem dX9_worked_139 : decode cX9_worked 139 = .ok (.aload_n 0, 1) := by decide +kernel
theorem dX9_worked_140 : decode cX9_worked 140 = .ok (.getfield 52, 3) := by decide +kernel
theorem dX9_worked_143 : decode cX9_worked 143 = .ok (.iload_n 2, 1) := by decide +kernel
theorem dX9_worked_144 : decode cX9_worked 144 = .ok (.iconst 1, 1) := by decide +kernel
theorem dX9_worked_145 : decode cX9_worked 145 = .ok (.isub, 1) := by decide +kernel
theorem dX9_worked_146 : decode cX9_worked 146 = .ok (.iaload, 1) := by decide +kernel
theorem dX9_worked_147 : decode cX9_worked 147 = .ok (.aload_n 0, 1) := by decide +kernel
theorem dX9_worked_148 : decode cX9_worked 148 = .ok (.getfield 52, 3) := by decide +kernel
theorem dX9_worked_151 : decode cX9_worked 151 = .ok (.iload_n 2, 1) := by decide +kernel
theorem dX9_worked_152 : decode cX9_worked 152 = .ok (.iaload, 1) := by decide +kernel
theorem dX9_worked_153 : decode cX9_worked 153 = .ok (.invokestatic 307, 3) := by decide +kernel
theorem dX9_worked_156 : decode cX9_worked 156 = .ok (.iastore, 1) := by decide +kernel
theorem dX9_worked_157 : decode cX9_worked 157 = .ok (.iinc 3 1, 3) := by decide +kernel
theorem dX9_worked_160 : decode cX9_worked 160 = .ok (.goto (-156), 3) := by decide +kernel
theorem dX9_worked_163 : decode cX9_worked 163 = .ok (.aload_n 0, 1) := by decide +kernel
theorem dX9_worked_164 : decode cX9_worked 164 = .ok (.getfield 52, 3) := by decide +kernel
theorem dX9_worked_167 : decode cX9_worked 167 = .ok (.iconst 0, 1) := by decide +kernel
theorem dX9_worked_168 : decode cX9_worked 168 = .ok (.iaload, 1) := by decide +kernel
theorem dX9_worked_169 : decode cX9_worked 169 = .ok (.ireturn, 1) := by decide +kernel
theorem dX9_isSheet_0 : decode cX9_isSheet 0 = .ok (.iload_n 0, 1) := by decide +kernel
theorem dX9_isSheet_1 : decode cX9_isSheet 1 = .ok (.i2l, 1) := by decide +kernel
theorem dX9_isSheet_2 : decode cX9_isSheet 2 = .ok (.lconst 0, 1) := by decide +kernel
theorem dX9_isSheet_3 : decode cX9_isSheet 3 = .ok (.ldc2_w 182, 3) := by decide +kernel
theorem dX9_isSheet_6 : decode cX9_isSheet 6 = .ok (.invokestatic 65, 3) := by decide +kernel
theorem dX9_isSheet_9 : decode cX9_isSheet 9 = .ok (.ireturn, 1) := by decide +kernel
theorem dX9_sheet_0 : decode cX9_sheet 0 = .ok (.iload_n 1, 1) := by decide +kernel
theorem dX9_sheet_1 : decode cX9_sheet 1 = .ok (.invokestatic 311, 3) := by decide +kernel
theorem dX9_sheet_4 : decode cX9_sheet 4 = .ok (.ifCond .eq 25, 3) := by decide +kernel
theorem dX9_sheet_7 : decode cX9_sheet 7 = .ok (.iload_n 2, 1) := by decide +kernel
theorem dX9_sheet_8 : decode cX9_sheet 8 = .ok (.i2l, 1) := by decide +kernel
theorem dX9_sheet_9 : decode cX9_sheet 9 = .ok (.ldc2_w 314, 3) := by decide +kernel
theorem dX9_sheet_12 : decode cX9_sheet 12 = .ok (.lconst 1, 1) := by decide +kernel
theorem dX9_sheet_13 : decode cX9_sheet 13 = .ok (.invokestatic 65, 3) := by decide +kernel
theorem dX9_sheet_16 : decode cX9_sheet 16 = .ok (.ifCond .eq 13, 3) := by decide +kernel
theorem dX9_sheet_19 : decode cX9_sheet 19 = .ok (.iload_n 2, 1) := by decide +kernel
theorem dX9_sheet_20 : decode cX9_sheet 20 = .ok (.ifCond .lt 12, 3) := by decide +kernel
theorem dX9_sheet_23 : decode cX9_sheet 23 = .ok (.iload_n 3, 1) := by decide +kernel
theorem dX9_sheet_24 : decode cX9_sheet 24 = .ok (.bipush 24, 2) := by decide +kernel
theorem dX9_sheet_26 : decode cX9_sheet 26 = .ok (.if_icmp .le 6, 3) := by decide +kernel
theorem dX9_sheet_29 : decode cX9_sheet 29 = .ok (.ldc 72, 2) := by decide +kernel
theorem dX9_sheet_31 : decode cX9_sheet 31 = .ok (.ireturn, 1) := by decide +kernel
theorem dX9_sheet_32 : decode cX9_sheet 32 = .ok (.iload_n 2, 1) := by decide +kernel
theorem dX9_sheet_33 : decode cX9_sheet 33 = .ok (.ifCond .lt 11, 3) := by decide +kernel
theorem dX9_sheet_36 : decode cX9_sheet 36 = .ok (.iload_n 3, 1) := by decide +kernel
theorem dX9_sheet_37 : decode cX9_sheet 37 = .ok (.ifCond .ge 7, 3) := by decide +kernel
theorem dX9_sheet_40 : decode cX9_sheet 40 = .ok (.ldc_w 316, 3) := by decide +kernel
theorem dX9_sheet_43 : decode cX9_sheet 43 = .ok (.ireturn, 1) := by decide +kernel
theorem dX9_sheet_44 : decode cX9_sheet 44 = .ok (.aload_n 0, 1) := by decide +kernel
theorem dX9_sheet_45 : decode cX9_sheet 45 = .ok (.getfield 19, 3) := by decide +kernel
theorem dX9_sheet_48 : decode cX9_sheet 48 = .ok (.iload_n 1, 1) := by decide +kernel
theorem dX9_sheet_49 : decode cX9_sheet 49 = .ok (.iload_n 2, 1) := by decide +kernel
theorem dX9_sheet_50 : decode cX9_sheet 50 = .ok (.iastore, 1) := by decide +kernel
theorem dX9_sheet_51 : decode cX9_sheet 51 = .ok (.aload_n 0, 1) := by decide +kernel
theorem dX9_sheet_52 : decode cX9_sheet 52 = .ok (.getfield 22, 3) := by decide +kernel
theorem dX9_sheet_55 : decode cX9_sheet 55 = .ok (.iload_n 1, 1) := by decide +kernel
theorem dX9_sheet_56 : decode cX9_sheet 56 = .ok (.iload_n 2, 1) := by decide +kernel
theorem dX9_sheet_57 : decode cX9_sheet 57 = .ok (.ifCond .ge 7, 3) := by decide +kernel
theorem dX9_sheet_60 : decode cX9_sheet 60 = .ok (.iconst 0, 1) := by decide +kernel
theorem dX9_sheet_61 : decode cX9_sheet 61 = .ok (.goto 4, 3) := by decide +kernel
theorem dX9_sheet_64 : decode cX9_sheet 64 = .ok (.iload_n 3, 1) := by decide +kernel
theorem dX9_sheet_65 : decode cX9_sheet 65 = .ok (.iastore, 1) := by decide +kernel
theorem dX9_sheet_66 : decode cX9_sheet 66 = .ok (.iconst 0, 1) := by decide +kernel
theorem dX9_sheet_67 : decode cX9_sheet 67 = .ok (.istore 4, 2) := by decide +kernel
theorem dX9_sheet_69 : decode cX9_sheet 69 = .ok (.iload 4, 2) := by decide +kernel
theorem dX9_sheet_71 : decode cX9_sheet 71 = .ok (.bipush 24, 2) := by decide +kernel
theorem dX9_sheet_73 : decode cX9_sheet 73 = .ok (.if_icmp .ge 22, 3) := by decide +kernel
theorem dX9_sheet_76 : decode cX9_sheet 76 = .ok (.aload_n 0, 1) := by decide +kernel
theorem dX9_sheet_77 : decode cX9_sheet 77 = .ok (.getfield 25, 3) := by decide +kernel
theorem dX9_sheet_80 : decode cX9_sheet 80 = .ok (.bipush 24, 2) := by decide +kernel
theorem dX9_sheet_82 : decode cX9_sheet 82 = .ok (.iload_n 1, 1) := by decide +kernel
theorem dX9_sheet_83 : decode cX9_sheet 83 = .ok (.imul, 1) := by decide +kernel
theorem dX9_sheet_84 : decode cX9_sheet 84 = .ok (.iload 4, 2) := by decide +kernel
theorem dX9_sheet_86 : decode cX9_sheet 86 = .ok (.iadd, 1) := by decide +kernel
theorem dX9_sheet_87 : decode cX9_sheet 87 = .ok (.iconst 0, 1) := by decide +kernel
theorem dX9_sheet_88 : decode cX9_sheet 88 = .ok (.iastore, 1) := by decide +kernel
theorem dX9_sheet_89 : decode cX9_sheet 89 = .ok (.iinc 4 1, 3) := by decide +kernel
theorem dX9_sheet_92 : decode cX9_sheet 92 = .ok (.goto (-23), 3) := by decide +kernel
theorem dX9_sheet_95 : decode cX9_sheet 95 = .ok (.aload_n 0, 1) := by decide +kernel
theorem dX9_sheet_96 : decode cX9_sheet 96 = .ok (.getfield 22, 3) := by decide +kernel
theorem dX9_sheet_99 : decode cX9_sheet 99 = .ok (.iload_n 1, 1) := by decide +kernel
theorem dX9_sheet_100 : decode cX9_sheet 100 = .ok (.iaload, 1) := by decide +kernel
theorem dX9_sheet_101 : decode cX9_sheet 101 = .ok (.ireturn, 1) := by decide +kernel
theorem dX9_mark_0 : decode cX9_mark 0 = .ok (.iload_n 1, 1) := by decide +kernel
theorem dX9_mark_1 : decode cX9_mark 1 = .ok (.invokestatic 311, 3) := by decide +kernel
theorem dX9_mark_4 : decode cX9_mark 4 = .ok (.ifCond .ne 6, 3) := by decide +kernel
theorem dX9_mark_7 : decode cX9_mark 7 = .ok (.ldc 72, 2) := by decide +kernel
theorem dX9_mark_9 : decode cX9_mark 9 = .ok (.ireturn, 1) := by decide +kernel
theorem dX9_mark_10 : decode cX9_mark 10 = .ok (.aload_n 0, 1) := by decide +kernel
theorem dX9_mark_11 : decode cX9_mark 11 = .ok (.getfield 19, 3) := by decide +kernel
theorem dX9_mark_14 : decode cX9_mark 14 = .ok (.iload_n 1, 1) := by decide +kernel
theorem dX9_mark_15 : decode cX9_mark 15 = .ok (.iaload, 1) := by decide +kernel
theorem dX9_mark_16 : decode cX9_mark 16 = .ok (.ifCond .ge 7, 3) := by decide +kernel
theorem dX9_mark_19 : decode cX9_mark 19 = .ok (.ldc_w 317, 3) := by decide +kernel
theorem dX9_mark_22 : decode cX9_mark 22 = .ok (.ireturn, 1) := by decide +kernel
theorem dX9_mark_23 : decode cX9_mark 23 = .ok (.iload_n 2, 1) := by decide +kernel
theorem dX9_mark_24 : decode cX9_mark 24 = .ok (.i2l, 1) := by decide +kernel
theorem dX9_mark_25 : decode cX9_mark 25 = .ok (.lconst 0, 1) := by decide +kernel
theorem dX9_mark_26 : decode cX9_mark 26 = .ok (.aload_n 0, 1) := by decide +kernel
theorem dX9_mark_27 : decode cX9_mark 27 = .ok (.getfield 22, 3) := by decide +kernel
theorem dX9_mark_30 : decode cX9_mark 30 = .ok (.iload_n 1, 1) := by decide +kernel
theorem dX9_mark_31 : decode cX9_mark 31 = .ok (.iaload, 1) := by decide +kernel
theorem dX9_mark_32 : decode cX9_mark 32 = .ok (.iconst 1, 1) := by decide +kernel
theorem dX9_mark_33 : decode cX9_mark 33 = .ok (.isub, 1) := by decide +kernel
theorem dX9_mark_34 : decode cX9_mark 34 = .ok (.i2l, 1) := by decide +kernel
theorem dX9_mark_35 : decode cX9_mark 35 = .ok (.invokestatic 65, 3) := by decide +kernel
theorem dX9_mark_38 : decode cX9_mark 38 = .ok (.ifCond .ne 7, 3) := by decide +kernel
theorem dX9_mark_41 : decode cX9_mark 41 = .ok (.ldc_w 318, 3) := by decide +kernel
theorem dX9_mark_44 : decode cX9_mark 44 = .ok (.ireturn, 1) := by decide +kernel
theorem dX9_mark_45 : decode cX9_mark 45 = .ok (.aload_n 0, 1) := by decide +kernel
theorem dX9_mark_46 : decode cX9_mark 46 = .ok (.getfield 19, 3) := by decide +kernel
theorem dX9_mark_49 : decode cX9_mark 49 = .ok (.iload_n 1, 1) := by decide +kernel
theorem dX9_mark_50 : decode cX9_mark 50 = .ok (.iaload, 1) := by decide +kernel
theorem dX9_mark_51 : decode cX9_mark 51 = .ok (.ifCond .ne 12, 3) := by decide +kernel
theorem dX9_mark_54 : decode cX9_mark 54 = .ok (.iload_n 3, 1) := by decide +kernel
theorem dX9_mark_55 : decode cX9_mark 55 = .ok (.ldc 64, 2) := by decide +kernel
theorem dX9_mark_57 : decode cX9_mark 57 = .ok (.if_icmp .ne 6, 3) := by decide +kernel
theorem dX9_mark_60 : decode cX9_mark 60 = .ok (.ldc 142, 2) := by decide +kernel
theorem dX9_mark_62 : decode cX9_mark 62 = .ok (.ireturn, 1) := by decide +kernel
theorem dX9_mark_63 : decode cX9_mark 63 = .ok (.aload_n 0, 1) := by decide +kernel
theorem dX9_mark_64 : decode cX9_mark 64 = .ok (.getfield 19, 3) := by decide +kernel
theorem dX9_mark_67 : decode cX9_mark 67 = .ok (.iload_n 1, 1) := by decide +kernel
theorem dX9_mark_68 : decode cX9_mark 68 = .ok (.iaload, 1) := by decide +kernel
theorem dX9_mark_69 : decode cX9_mark 69 = .ok (.iconst 1, 1) := by decide +kernel
theorem dX9_mark_70 : decode cX9_mark 70 = .ok (.if_icmp .ne 26, 3) := by decide +kernel
theorem dX9_mark_73 : decode cX9_mark 73 = .ok (.iload_n 3, 1) := by decide +kernel
theorem dX9_mark_74 : decode cX9_mark 74 = .ok (.ldc 64, 2) := by decide +kernel
theorem dX9_mark_76 : decode cX9_mark 76 = .ok (.if_icmp .eq 20, 3) := by decide +kernel
theorem dX9_mark_79 : decode cX9_mark 79 = .ok (.iload_n 3, 1) := by decide +kernel
theorem dX9_mark_80 : decode cX9_mark 80 = .ok (.i2l, 1) := by decide +kernel
theorem dX9_mark_81 : decode cX9_mark 81 = .ok (.ldc2_w 319, 3) := by decide +kernel
theorem dX9_mark_84 : decode cX9_mark 84 = .ok (.ldc2_w 321, 3) := by decide +kernel
theorem dX9_mark_87 : decode cX9_mark 87 = .ok (.invokestatic 65, 3) := by decide +kernel
theorem dX9_mark_90 : decode cX9_mark 90 = .ok (.ifCond .ne 6, 3) := by decide +kernel
theorem dX9_mark_93 : decode cX9_mark 93 = .ok (.ldc 72, 2) := by decide +kernel
theorem dX9_mark_95 : decode cX9_mark 95 = .ok (.ireturn, 1) := by decide +kernel
theorem dX9_mark_96 : decode cX9_mark 96 = .ok (.aload_n 0, 1) := by decide +kernel
theorem dX9_mark_97 : decode cX9_mark 97 = .ok (.getfield 25, 3) := by decide +kernel
theorem dX9_mark_100 : decode cX9_mark 100 = .ok (.bipush 24, 2) := by decide +kernel
theorem dX9_mark_102 : decode cX9_mark 102 = .ok (.iload_n 1, 1) := by decide +kernel
theorem dX9_mark_103 : decode cX9_mark 103 = .ok (.imul, 1) := by decide +kernel
theorem dX9_mark_104 : decode cX9_mark 104 = .ok (.iload_n 2, 1) := by decide +kernel
theorem dX9_mark_105 : decode cX9_mark 105 = .ok (.iadd, 1) := by decide +kernel
theorem dX9_mark_106 : decode cX9_mark 106 = .ok (.aload_n 0, 1) := by decide +kernel
theorem dX9_mark_107 : decode cX9_mark 107 = .ok (.getfield 19, 3) := by decide +kernel
theorem dX9_mark_110 : decode cX9_mark 110 = .ok (.iload_n 1, 1) := by decide +kernel
theorem dX9_mark_111 : decode cX9_mark 111 = .ok (.iaload, 1) := by decide +kernel
theorem dX9_mark_112 : decode cX9_mark 112 = .ok (.ifCond .ne 13, 3) := by decide +kernel
theorem dX9_mark_115 : decode cX9_mark 115 = .ok (.iload_n 3, 1) := by decide +kernel
theorem dX9_mark_116 : decode cX9_mark 116 = .ok (.bipush 16, 2) := by decide +kernel
theorem dX9_mark_118 : decode cX9_mark 118 = .ok (.ishl, 1) := by decide +kernel
theorem dX9_mark_119 : decode cX9_mark 119 = .ok (.bipush 16, 2) := by decide +kernel
theorem dX9_mark_121 : decode cX9_mark 121 = .ok (.ishr, 1) := by decide +kernel
theorem dX9_mark_122 : decode cX9_mark 122 = .ok (.goto 4, 3) := by decide +kernel
theorem dX9_mark_125 : decode cX9_mark 125 = .ok (.iload_n 3, 1) := by decide +kernel
theorem dX9_mark_126 : decode cX9_mark 126 = .ok (.iastore, 1) := by decide +kernel
theorem dX9_mark_127 : decode cX9_mark 127 = .ok (.iconst 1, 1) := by decide +kernel
theorem dX9_mark_128 : decode cX9_mark 128 = .ok (.ireturn, 1) := by decide +kernel
theorem dX9_pour_0 : decode cX9_pour 0 = .ok (.iload_n 1, 1) := by decide +kernel
theorem dX9_pour_1 : decode cX9_pour 1 = .ok (.invokestatic 311, 3) := by decide +kernel
theorem dX9_pour_4 : decode cX9_pour 4 = .ok (.ifCond .ne 6, 3) := by decide +kernel
theorem dX9_pour_7 : decode cX9_pour 7 = .ok (.ldc 72, 2) := by decide +kernel
theorem dX9_pour_9 : decode cX9_pour 9 = .ok (.ireturn, 1) := by decide +kernel
theorem dX9_pour_10 : decode cX9_pour 10 = .ok (.aload_n 0, 1) := by decide +kernel
theorem dX9_pour_11 : decode cX9_pour 11 = .ok (.getfield 19, 3) := by decide +kernel
theorem dX9_pour_14 : decode cX9_pour 14 = .ok (.iload_n 1, 1) := by decide +kernel
theorem dX9_pour_15 : decode cX9_pour 15 = .ok (.iaload, 1) := by decide +kernel
theorem dX9_pour_16 : decode cX9_pour 16 = .ok (.ifCond .ge 7, 3) := by decide +kernel
theorem dX9_pour_19 : decode cX9_pour 19 = .ok (.ldc_w 317, 3) := by decide +kernel
theorem dX9_pour_22 : decode cX9_pour 22 = .ok (.ireturn, 1) := by decide +kernel
theorem dX9_pour_23 : decode cX9_pour 23 = .ok (.iconst 0, 1) := by decide +kernel
theorem dX9_pour_24 : decode cX9_pour 24 = .ok (.istore_n 2, 1) := by decide +kernel
theorem dX9_pour_25 : decode cX9_pour 25 = .ok (.iconst 0, 1) := by decide +kernel
theorem dX9_pour_26 : decode cX9_pour 26 = .ok (.istore_n 3, 1) := by decide +kernel
theorem dX9_pour_27 : decode cX9_pour 27 = .ok (.iload_n 3, 1) := by decide +kernel
theorem dX9_pour_28 : decode cX9_pour 28 = .ok (.aload_n 0, 1) := by decide +kernel
theorem dX9_pour_29 : decode cX9_pour 29 = .ok (.getfield 22, 3) := by decide +kernel
theorem dX9_pour_32 : decode cX9_pour 32 = .ok (.iload_n 1, 1) := by decide +kernel
theorem dX9_pour_33 : decode cX9_pour 33 = .ok (.iaload, 1) := by decide +kernel
theorem dX9_pour_34 : decode cX9_pour 34 = .ok (.if_icmp .ge 82, 3) := by decide +kernel
theorem dX9_pour_37 : decode cX9_pour 37 = .ok (.iload_n 3, 1) := by decide +kernel
theorem dX9_pour_38 : decode cX9_pour 38 = .ok (.aload_n 0, 1) := by decide +kernel
theorem dX9_pour_39 : decode cX9_pour 39 = .ok (.getfield 7, 3) := by decide +kernel
theorem dX9_pour_42 : decode cX9_pour 42 = .ok (.iconst 0, 1) := by decide +kernel
theorem dX9_pour_43 : decode cX9_pour 43 = .ok (.iaload, 1) := by decide +kernel
theorem dX9_pour_44 : decode cX9_pour 44 = .ok (.if_icmp .ge 72, 3) := by decide +kernel
theorem dX9_pour_47 : decode cX9_pour 47 = .ok (.aload_n 0, 1) := by decide +kernel
theorem dX9_pour_48 : decode cX9_pour 48 = .ok (.getfield 25, 3) := by decide +kernel
theorem dX9_pour_51 : decode cX9_pour 51 = .ok (.bipush 24, 2) := by decide +kernel
theorem dX9_pour_53 : decode cX9_pour 53 = .ok (.iload_n 1, 1) := by decide +kernel
theorem dX9_pour_54 : decode cX9_pour 54 = .ok (.imul, 1) := by decide +kernel
theorem dX9_pour_55 : decode cX9_pour 55 = .ok (.iload_n 3, 1) := by decide +kernel
theorem dX9_pour_56 : decode cX9_pour 56 = .ok (.iadd, 1) := by decide +kernel
theorem dX9_pour_57 : decode cX9_pour 57 = .ok (.iaload, 1) := by decide +kernel
theorem dX9_pour_58 : decode cX9_pour 58 = .ok (.istore 4, 2) := by decide +kernel
theorem dX9_pour_60 : decode cX9_pour 60 = .ok (.iload 4, 2) := by decide +kernel
theorem dX9_pour_62 : decode cX9_pour 62 = .ok (.ldc 64, 2) := by decide +kernel
theorem dX9_pour_64 : decode cX9_pour 64 = .ok (.if_icmp .ne 12, 3) := by decide +kernel
theorem dX9_pour_67 : decode cX9_pour 67 = .ok (.aload_n 0, 1) := by decide +kernel
theorem dX9_pour_68 : decode cX9_pour 68 = .ok (.iload_n 3, 1) := by decide +kernel
theorem dX9_pour_69 : decode cX9_pour 69 = .ok (.iconst 0, 1) := by decide +kernel
theorem dX9_pour_70 : decode cX9_pour 70 = .ok (.invokevirtual 74, 3) := by decide +kernel
theorem dX9_pour_73 : decode cX9_pour 73 = .ok (.goto 10, 3) := by decide +kernel
theorem dX9_pour_76 : decode cX9_pour 76 = .ok (.iload 4, 2) := by decide +kernel
theorem dX9_pour_78 : decode cX9_pour 78 = .ok (.bipush 99, 2) := by decide +kernel
theorem dX9_pour_80 : decode cX9_pour 80 = .ok (.invokestatic 88, 3) := by decide +kernel
theorem dX9_pour_83 : decode cX9_pour 83 = .ok (.istore 5, 2) := by decide +kernel
theorem dX9_pour_85 : decode cX9_pour 85 = .ok (.iload_n 2, 1) := by decide +kernel
theorem dX9_pour_86 : decode cX9_pour 86 = .ok (.iload 5, 2) := by decide +kernel
theorem dX9_pour_88 : decode cX9_pour 88 = .ok (.aload_n 0, 1) := by decide +kernel
theorem dX9_pour_89 : decode cX9_pour 89 = .ok (.bipush 12, 2) := by decide +kernel
theorem dX9_pour_91 : decode cX9_pour 91 = .ok (.iconst 3, 1) := by decide +kernel
theorem dX9_pour_92 : decode cX9_pour 92 = .ok (.iload_n 3, 1) := by decide +kernel
theorem dX9_pour_93 : decode cX9_pour 93 = .ok (.imul, 1) := by decide +kernel
theorem dX9_pour_94 : decode cX9_pour 94 = .ok (.iadd, 1) := by decide +kernel
theorem dX9_pour_95 : decode cX9_pour 95 = .ok (.iload 5, 2) := by decide +kernel
theorem dX9_pour_97 : decode cX9_pour 97 = .ok (.invokevirtual 114, 3) := by decide +kernel
theorem dX9_pour_100 : decode cX9_pour 100 = .ok (.if_icmp .ne 7, 3) := by decide +kernel
theorem dX9_pour_103 : decode cX9_pour 103 = .ok (.iconst 0, 1) := by decide +kernel
theorem dX9_pour_104 : decode cX9_pour 104 = .ok (.goto 4, 3) := by decide +kernel
theorem dX9_pour_107 : decode cX9_pour 107 = .ok (.iconst 1, 1) := by decide +kernel
theorem dX9_pour_108 : decode cX9_pour 108 = .ok (.iadd, 1) := by decide +kernel
theorem dX9_pour_109 : decode cX9_pour 109 = .ok (.istore_n 2, 1) := by decide +kernel
theorem dX9_pour_110 : decode cX9_pour 110 = .ok (.iinc 3 1, 3) := by decide +kernel
theorem dX9_pour_113 : decode cX9_pour 113 = .ok (.goto (-86), 3) := by decide +kernel
theorem dX9_pour_116 : decode cX9_pour 116 = .ok (.iload_n 2, 1) := by decide +kernel
theorem dX9_pour_117 : decode cX9_pour 117 = .ok (.ireturn, 1) := by decide +kernel
theorem dX9_reads_0 : decode cX9_reads 0 = .ok (.iload_n 1, 1) := by decide +kernel
theorem dX9_reads_1 : decode cX9_reads 1 = .ok (.invokestatic 311, 3) := by decide +kernel
theorem dX9_reads_4 : decode cX9_reads 4 = .ok (.ifCond .ne 6, 3) := by decide +kernel
theorem dX9_reads_7 : decode cX9_reads 7 = .ok (.ldc 72, 2) := by decide +kernel
theorem dX9_reads_9 : decode cX9_reads 9 = .ok (.ireturn, 1) := by decide +kernel
theorem dX9_reads_10 : decode cX9_reads 10 = .ok (.aload_n 0, 1) := by decide +kernel
theorem dX9_reads_11 : decode cX9_reads 11 = .ok (.getfield 19, 3) := by decide +kernel
theorem dX9_reads_14 : decode cX9_reads 14 = .ok (.iload_n 1, 1) := by decide +kernel
theorem dX9_reads_15 : decode cX9_reads 15 = .ok (.iaload, 1) := by decide +kernel
theorem dX9_reads_16 : decode cX9_reads 16 = .ok (.ifCond .ge 7, 3) := by decide +kernel
theorem dX9_reads_19 : decode cX9_reads 19 = .ok (.ldc_w 317, 3) := by decide +kernel
theorem dX9_reads_22 : decode cX9_reads 22 = .ok (.ireturn, 1) := by decide +kernel
theorem dX9_reads_23 : decode cX9_reads 23 = .ok (.iconst 0, 1) := by decide +kernel
theorem dX9_reads_24 : decode cX9_reads 24 = .ok (.istore_n 2, 1) := by decide +kernel
theorem dX9_reads_25 : decode cX9_reads 25 = .ok (.iload_n 2, 1) := by decide +kernel
theorem dX9_reads_26 : decode cX9_reads 26 = .ok (.aload_n 0, 1) := by decide +kernel
theorem dX9_reads_27 : decode cX9_reads 27 = .ok (.getfield 22, 3) := by decide +kernel
theorem dX9_reads_30 : decode cX9_reads 30 = .ok (.iload_n 1, 1) := by decide +kernel
theorem dX9_reads_31 : decode cX9_reads 31 = .ok (.iaload, 1) := by decide +kernel
theorem dX9_reads_32 : decode cX9_reads 32 = .ok (.if_icmp .ge 48, 3) := by decide +kernel
theorem dX9_reads_35 : decode cX9_reads 35 = .ok (.aload_n 0, 1) := by decide +kernel
theorem dX9_reads_36 : decode cX9_reads 36 = .ok (.getfield 25, 3) := by decide +kernel
theorem dX9_reads_39 : decode cX9_reads 39 = .ok (.bipush 24, 2) := by decide +kernel
theorem dX9_reads_41 : decode cX9_reads 41 = .ok (.iload_n 1, 1) := by decide +kernel
theorem dX9_reads_42 : decode cX9_reads 42 = .ok (.imul, 1) := by decide +kernel
theorem dX9_reads_43 : decode cX9_reads 43 = .ok (.iload_n 2, 1) := by decide +kernel
theorem dX9_reads_44 : decode cX9_reads 44 = .ok (.iadd, 1) := by decide +kernel
theorem dX9_reads_45 : decode cX9_reads 45 = .ok (.iaload, 1) := by decide +kernel
theorem dX9_reads_46 : decode cX9_reads 46 = .ok (.istore_n 3, 1) := by decide +kernel
theorem dX9_reads_47 : decode cX9_reads 47 = .ok (.iload_n 3, 1) := by decide +kernel
theorem dX9_reads_48 : decode cX9_reads 48 = .ok (.ldc 64, 2) := by decide +kernel
theorem dX9_reads_50 : decode cX9_reads 50 = .ok (.if_icmp .eq 24, 3) := by decide +kernel
theorem dX9_reads_53 : decode cX9_reads 53 = .ok (.iload_n 2, 1) := by decide +kernel
theorem dX9_reads_54 : decode cX9_reads 54 = .ok (.aload_n 0, 1) := by decide +kernel
theorem dX9_reads_55 : decode cX9_reads 55 = .ok (.getfield 7, 3) := by decide +kernel
theorem dX9_reads_58 : decode cX9_reads 58 = .ok (.iconst 0, 1) := by decide +kernel
theorem dX9_reads_59 : decode cX9_reads 59 = .ok (.iaload, 1) := by decide +kernel
theorem dX9_reads_60 : decode cX9_reads 60 = .ok (.if_icmp .ge 12, 3) := by decide +kernel
theorem dX9_reads_63 : decode cX9_reads 63 = .ok (.iload_n 3, 1) := by decide +kernel
theorem dX9_reads_64 : decode cX9_reads 64 = .ok (.aload_n 0, 1) := by decide +kernel
theorem dX9_reads_65 : decode cX9_reads 65 = .ok (.iload_n 2, 1) := by decide +kernel
theorem dX9_reads_66 : decode cX9_reads 66 = .ok (.invokevirtual 98, 3) := by decide +kernel
theorem dX9_reads_69 : decode cX9_reads 69 = .ok (.if_icmp .eq 5, 3) := by decide +kernel
theorem dX9_reads_72 : decode cX9_reads 72 = .ok (.iload_n 2, 1) := by decide +kernel
theorem dX9_reads_73 : decode cX9_reads 73 = .ok (.ireturn, 1) := by decide +kernel
theorem dX9_reads_74 : decode cX9_reads 74 = .ok (.iinc 2 1, 3) := by decide +kernel
theorem dX9_reads_77 : decode cX9_reads 77 = .ok (.goto (-52), 3) := by decide +kernel
theorem dX9_reads_80 : decode cX9_reads 80 = .ok (.ldc 64, 2) := by decide +kernel
theorem dX9_reads_82 : decode cX9_reads 82 = .ok (.ireturn, 1) := by decide +kernel
theorem dX9_signs_0 : decode cX9_signs 0 = .ok (.iload_n 1, 1) := by decide +kernel
theorem dX9_signs_1 : decode cX9_signs 1 = .ok (.invokestatic 311, 3) := by decide +kernel
theorem dX9_signs_4 : decode cX9_signs 4 = .ok (.ifCond .eq 25, 3) := by decide +kernel
theorem dX9_signs_7 : decode cX9_signs 7 = .ok (.iload_n 2, 1) := by decide +kernel
theorem dX9_signs_8 : decode cX9_signs 8 = .ok (.i2l, 1) := by decide +kernel
theorem dX9_signs_9 : decode cX9_signs 9 = .ok (.lconst 0, 1) := by decide +kernel
theorem dX9_signs_10 : decode cX9_signs 10 = .ok (.ldc2_w 207, 3) := by decide +kernel
theorem dX9_signs_13 : decode cX9_signs 13 = .ok (.invokestatic 65, 3) := by decide +kernel
theorem dX9_signs_16 : decode cX9_signs 16 = .ok (.ifCond .eq 13, 3) := by decide +kernel
theorem dX9_signs_19 : decode cX9_signs 19 = .ok (.iload_n 3, 1) := by decide +kernel
theorem dX9_signs_20 : decode cX9_signs 20 = .ok (.i2l, 1) := by decide +kernel
theorem dX9_signs_21 : decode cX9_signs 21 = .ok (.lconst 0, 1) := by decide +kernel
theorem dX9_signs_22 : decode cX9_signs 22 = .ok (.lconst 1, 1) := by decide +kernel
theorem dX9_signs_23 : decode cX9_signs 23 = .ok (.invokestatic 65, 3) := by decide +kernel
theorem dX9_signs_26 : decode cX9_signs 26 = .ok (.ifCond .ne 6, 3) := by decide +kernel
theorem dX9_signs_29 : decode cX9_signs 29 = .ok (.ldc 72, 2) := by decide +kernel
theorem dX9_signs_31 : decode cX9_signs 31 = .ok (.ireturn, 1) := by decide +kernel
theorem dX9_signs_32 : decode cX9_signs 32 = .ok (.aload_n 0, 1) := by decide +kernel
theorem dX9_signs_33 : decode cX9_signs 33 = .ok (.getfield 19, 3) := by decide +kernel
theorem dX9_signs_36 : decode cX9_signs 36 = .ok (.iload_n 1, 1) := by decide +kernel
theorem dX9_signs_37 : decode cX9_signs 37 = .ok (.iaload, 1) := by decide +kernel
theorem dX9_signs_38 : decode cX9_signs 38 = .ok (.ifCond .ge 7, 3) := by decide +kernel
theorem dX9_signs_41 : decode cX9_signs 41 = .ok (.ldc_w 317, 3) := by decide +kernel
theorem dX9_signs_44 : decode cX9_signs 44 = .ok (.ireturn, 1) := by decide +kernel
theorem dX9_signs_45 : decode cX9_signs 45 = .ok (.aload_n 0, 1) := by decide +kernel
theorem dX9_signs_46 : decode cX9_signs 46 = .ok (.invokevirtual 184, 3) := by decide +kernel
theorem dX9_signs_49 : decode cX9_signs 49 = .ok (.iconst (-1), 1) := by decide +kernel
theorem dX9_signs_50 : decode cX9_signs 50 = .ok (.istore 4, 2) := by decide +kernel
theorem dX9_signs_52 : decode cX9_signs 52 = .ok (.iconst 0, 1) := by decide +kernel
theorem dX9_signs_53 : decode cX9_signs 53 = .ok (.istore 5, 2) := by decide +kernel
theorem dX9_signs_55 : decode cX9_signs 55 = .ok (.iconst 0, 1) := by decide +kernel
theorem dX9_signs_56 : decode cX9_signs 56 = .ok (.istore 6, 2) := by decide +kernel
theorem dX9_signs_58 : decode cX9_signs 58 = .ok (.iload 6, 2) := by decide +kernel
theorem dX9_signs_60 : decode cX9_signs 60 = .ok (.bipush 40, 2) := by decide +kernel
theorem dX9_signs_62 : decode cX9_signs 62 = .ok (.if_icmp .gt 126, 3) := by decide +kernel
theorem dX9_signs_65 : decode cX9_signs 65 = .ok (.aload_n 0, 1) := by decide +kernel
theorem dX9_signs_66 : decode cX9_signs 66 = .ok (.getfield 7, 3) := by decide +kernel
theorem dX9_signs_69 : decode cX9_signs 69 = .ok (.iconst 4, 1) := by decide +kernel
theorem dX9_signs_70 : decode cX9_signs 70 = .ok (.iload 6, 2) := by decide +kernel
theorem dX9_signs_72 : decode cX9_signs 72 = .ok (.iastore, 1) := by decide +kernel
theorem dX9_signs_73 : decode cX9_signs 73 = .ok (.aload_n 0, 1) := by decide +kernel
theorem dX9_signs_74 : decode cX9_signs 74 = .ok (.iload_n 2, 1) := by decide +kernel
theorem dX9_signs_75 : decode cX9_signs 75 = .ok (.invokevirtual 187, 3) := by decide +kernel
theorem dX9_signs_78 : decode cX9_signs 78 = .ok (.iconst 0, 1) := by decide +kernel
theorem dX9_signs_79 : decode cX9_signs 79 = .ok (.istore 7, 2) := by decide +kernel
theorem dX9_signs_81 : decode cX9_signs 81 = .ok (.iconst 0, 1) := by decide +kernel
theorem dX9_signs_82 : decode cX9_signs 82 = .ok (.istore 8, 2) := by decide +kernel
theorem dX9_signs_84 : decode cX9_signs 84 = .ok (.iload 8, 2) := by decide +kernel
theorem dX9_signs_86 : decode cX9_signs 86 = .ok (.aload_n 0, 1) := by decide +kernel
theorem dX9_signs_87 : decode cX9_signs 87 = .ok (.getfield 22, 3) := by decide +kernel
theorem dX9_signs_90 : decode cX9_signs 90 = .ok (.iload_n 1, 1) := by decide +kernel
theorem dX9_signs_91 : decode cX9_signs 91 = .ok (.iaload, 1) := by decide +kernel
theorem dX9_signs_92 : decode cX9_signs 92 = .ok (.if_icmp .ge 66, 3) := by decide +kernel
theorem dX9_signs_95 : decode cX9_signs 95 = .ok (.aload_n 0, 1) := by decide +kernel
theorem dX9_signs_96 : decode cX9_signs 96 = .ok (.getfield 25, 3) := by decide +kernel
theorem dX9_signs_99 : decode cX9_signs 99 = .ok (.bipush 24, 2) := by decide +kernel
theorem dX9_signs_101 : decode cX9_signs 101 = .ok (.iload_n 1, 1) := by decide +kernel
theorem dX9_signs_102 : decode cX9_signs 102 = .ok (.imul, 1) := by decide +kernel
theorem dX9_signs_103 : decode cX9_signs 103 = .ok (.iload 8, 2) := by decide +kernel
theorem dX9_signs_105 : decode cX9_signs 105 = .ok (.iadd, 1) := by decide +kernel
theorem dX9_signs_106 : decode cX9_signs 106 = .ok (.iaload, 1) := by decide +kernel
theorem dX9_signs_107 : decode cX9_signs 107 = .ok (.istore 9, 2) := by decide +kernel
theorem dX9_signs_109 : decode cX9_signs 109 = .ok (.iload 7, 2) := by decide +kernel
theorem dX9_signs_111 : decode cX9_signs 111 = .ok (.iload 9, 2) := by decide +kernel
theorem dX9_signs_113 : decode cX9_signs 113 = .ok (.ldc 64, 2) := by decide +kernel
theorem dX9_signs_115 : decode cX9_signs 115 = .ok (.if_icmp .ne 7, 3) := by decide +kernel
theorem dX9_signs_118 : decode cX9_signs 118 = .ok (.iconst 0, 1) := by decide +kernel
theorem dX9_signs_119 : decode cX9_signs 119 = .ok (.goto 30, 3) := by decide +kernel
theorem dX9_signs_122 : decode cX9_signs 122 = .ok (.iload 9, 2) := by decide +kernel
theorem dX9_signs_124 : decode cX9_signs 124 = .ok (.iload 8, 2) := by decide +kernel
theorem dX9_signs_126 : decode cX9_signs 126 = .ok (.aload_n 0, 1) := by decide +kernel
theorem dX9_signs_127 : decode cX9_signs 127 = .ok (.getfield 7, 3) := by decide +kernel
theorem dX9_signs_130 : decode cX9_signs 130 = .ok (.iconst 0, 1) := by decide +kernel
theorem dX9_signs_131 : decode cX9_signs 131 = .ok (.iaload, 1) := by decide +kernel
theorem dX9_signs_132 : decode cX9_signs 132 = .ok (.if_icmp .ge 13, 3) := by decide +kernel
theorem dX9_signs_135 : decode cX9_signs 135 = .ok (.aload_n 0, 1) := by decide +kernel
theorem dX9_signs_136 : decode cX9_signs 136 = .ok (.iload 8, 2) := by decide +kernel
theorem dX9_signs_138 : decode cX9_signs 138 = .ok (.iconst 0, 1) := by decide +kernel
theorem dX9_signs_139 : decode cX9_signs 139 = .ok (.invokevirtual 74, 3) := by decide +kernel
theorem dX9_signs_142 : decode cX9_signs 142 = .ok (.goto 4, 3) := by decide +kernel
theorem dX9_signs_145 : decode cX9_signs 145 = .ok (.iconst 0, 1) := by decide +kernel
theorem dX9_signs_146 : decode cX9_signs 146 = .ok (.invokestatic 117, 3) := by decide +kernel
theorem dX9_signs_149 : decode cX9_signs 149 = .ok (.iadd, 1) := by decide +kernel
theorem dX9_signs_150 : decode cX9_signs 150 = .ok (.istore 7, 2) := by decide +kernel
theorem dX9_signs_152 : decode cX9_signs 152 = .ok (.iinc 8 1, 3) := by decide +kernel
theorem dX9_signs_155 : decode cX9_signs 155 = .ok (.goto (-71), 3) := by decide +kernel
theorem dX9_signs_158 : decode cX9_signs 158 = .ok (.aload_n 0, 1) := by decide +kernel
theorem dX9_signs_159 : decode cX9_signs 159 = .ok (.invokevirtual 194, 3) := by decide +kernel
theorem dX9_signs_162 : decode cX9_signs 162 = .ok (.iload 4, 2) := by decide +kernel
theorem dX9_signs_164 : decode cX9_signs 164 = .ok (.ifCond .lt 10, 3) := by decide +kernel
theorem dX9_signs_167 : decode cX9_signs 167 = .ok (.iload 7, 2) := by decide +kernel
theorem dX9_signs_169 : decode cX9_signs 169 = .ok (.iload 5, 2) := by decide +kernel
theorem dX9_signs_171 : decode cX9_signs 171 = .ok (.if_icmp .ge 11, 3) := by decide +kernel
theorem dX9_signs_174 : decode cX9_signs 174 = .ok (.iload 6, 2) := by decide +kernel
theorem dX9_signs_176 : decode cX9_signs 176 = .ok (.istore 4, 2) := by decide +kernel
theorem dX9_signs_178 : decode cX9_signs 178 = .ok (.iload 7, 2) := by decide +kernel
theorem dX9_signs_180 : decode cX9_signs 180 = .ok (.istore 5, 2) := by decide +kernel
theorem dX9_signs_182 : decode cX9_signs 182 = .ok (.iinc 6 1, 3) := by decide +kernel
theorem dX9_signs_185 : decode cX9_signs 185 = .ok (.goto (-127), 3) := by decide +kernel
theorem dX9_signs_188 : decode cX9_signs 188 = .ok (.iload_n 3, 1) := by decide +kernel
theorem dX9_signs_189 : decode cX9_signs 189 = .ok (.ifCond .ne 8, 3) := by decide +kernel
theorem dX9_signs_192 : decode cX9_signs 192 = .ok (.iload 4, 2) := by decide +kernel
theorem dX9_signs_194 : decode cX9_signs 194 = .ok (.goto 5, 3) := by decide +kernel
theorem dX9_signs_197 : decode cX9_signs 197 = .ok (.iload 5, 2) := by decide +kernel
theorem dX9_signs_199 : decode cX9_signs 199 = .ok (.ireturn, 1) := by decide +kernel
theorem dX9_copy_0 : decode cX9_copy 0 = .ok (.iload_n 1, 1) := by decide +kernel
theorem dX9_copy_1 : decode cX9_copy 1 = .ok (.invokestatic 311, 3) := by decide +kernel
theorem dX9_copy_4 : decode cX9_copy 4 = .ok (.ifCond .eq 10, 3) := by decide +kernel
theorem dX9_copy_7 : decode cX9_copy 7 = .ok (.iload_n 3, 1) := by decide +kernel
theorem dX9_copy_8 : decode cX9_copy 8 = .ok (.invokestatic 311, 3) := by decide +kernel
theorem dX9_copy_11 : decode cX9_copy 11 = .ok (.ifCond .ne 6, 3) := by decide +kernel
theorem dX9_copy_14 : decode cX9_copy 14 = .ok (.ldc 72, 2) := by decide +kernel
theorem dX9_copy_16 : decode cX9_copy 16 = .ok (.ireturn, 1) := by decide +kernel
theorem dX9_copy_17 : decode cX9_copy 17 = .ok (.aload_n 0, 1) := by decide +kernel
theorem dX9_copy_18 : decode cX9_copy 18 = .ok (.getfield 19, 3) := by decide +kernel
theorem dX9_copy_21 : decode cX9_copy 21 = .ok (.iload_n 1, 1) := by decide +kernel
theorem dX9_copy_22 : decode cX9_copy 22 = .ok (.iaload, 1) := by decide +kernel
theorem dX9_copy_23 : decode cX9_copy 23 = .ok (.ifCond .lt 12, 3) := by decide +kernel
theorem dX9_copy_26 : decode cX9_copy 26 = .ok (.aload_n 0, 1) := by decide +kernel
theorem dX9_copy_27 : decode cX9_copy 27 = .ok (.getfield 19, 3) := by decide +kernel
theorem dX9_copy_30 : decode cX9_copy 30 = .ok (.iload_n 3, 1) := by decide +kernel
theorem dX9_copy_31 : decode cX9_copy 31 = .ok (.iaload, 1) := by decide +kernel
theorem dX9_copy_32 : decode cX9_copy 32 = .ok (.ifCond .ge 7, 3) := by decide +kernel
theorem dX9_copy_35 : decode cX9_copy 35 = .ok (.ldc_w 317, 3) := by decide +kernel
theorem dX9_copy_38 : decode cX9_copy 38 = .ok (.ireturn, 1) := by decide +kernel
theorem dX9_copy_39 : decode cX9_copy 39 = .ok (.aload_n 0, 1) := by decide +kernel
theorem dX9_copy_40 : decode cX9_copy 40 = .ok (.getfield 19, 3) := by decide +kernel
theorem dX9_copy_43 : decode cX9_copy 43 = .ok (.iload_n 1, 1) := by decide +kernel
theorem dX9_copy_44 : decode cX9_copy 44 = .ok (.iaload, 1) := by decide +kernel
theorem dX9_copy_45 : decode cX9_copy 45 = .ok (.aload_n 0, 1) := by decide +kernel
theorem dX9_copy_46 : decode cX9_copy 46 = .ok (.getfield 19, 3) := by decide +kernel
theorem dX9_copy_49 : decode cX9_copy 49 = .ok (.iload_n 3, 1) := by decide +kernel
theorem dX9_copy_50 : decode cX9_copy 50 = .ok (.iaload, 1) := by decide +kernel
theorem dX9_copy_51 : decode cX9_copy 51 = .ok (.if_icmp .eq 6, 3) := by decide +kernel
theorem dX9_copy_54 : decode cX9_copy 54 = .ok (.ldc 142, 2) := by decide +kernel
theorem dX9_copy_56 : decode cX9_copy 56 = .ok (.ireturn, 1) := by decide +kernel
theorem dX9_copy_57 : decode cX9_copy 57 = .ok (.iload_n 2, 1) := by decide +kernel
theorem dX9_copy_58 : decode cX9_copy 58 = .ok (.ifCond .lt 48, 3) := by decide +kernel
theorem dX9_copy_61 : decode cX9_copy 61 = .ok (.iload 4, 2) := by decide +kernel
theorem dX9_copy_63 : decode cX9_copy 63 = .ok (.ifCond .lt 43, 3) := by decide +kernel
theorem dX9_copy_66 : decode cX9_copy 66 = .ok (.iload 5, 2) := by decide +kernel
theorem dX9_copy_68 : decode cX9_copy 68 = .ok (.ifCond .lt 38, 3) := by decide +kernel
theorem dX9_copy_71 : decode cX9_copy 71 = .ok (.iload_n 2, 1) := by decide +kernel
theorem dX9_copy_72 : decode cX9_copy 72 = .ok (.i2l, 1) := by decide +kernel
theorem dX9_copy_73 : decode cX9_copy 73 = .ok (.iload 5, 2) := by decide +kernel
theorem dX9_copy_75 : decode cX9_copy 75 = .ok (.i2l, 1) := by decide +kernel
theorem dX9_copy_76 : decode cX9_copy 76 = .ok (.ladd, 1) := by decide +kernel
theorem dX9_copy_77 : decode cX9_copy 77 = .ok (.aload_n 0, 1) := by decide +kernel
theorem dX9_copy_78 : decode cX9_copy 78 = .ok (.getfield 22, 3) := by decide +kernel
theorem dX9_copy_81 : decode cX9_copy 81 = .ok (.iload_n 1, 1) := by decide +kernel
theorem dX9_copy_82 : decode cX9_copy 82 = .ok (.iaload, 1) := by decide +kernel
theorem dX9_copy_83 : decode cX9_copy 83 = .ok (.i2l, 1) := by decide +kernel
theorem dX9_copy_84 : decode cX9_copy 84 = .ok (.lcmp, 1) := by decide +kernel
theorem dX9_copy_85 : decode cX9_copy 85 = .ok (.ifCond .gt 21, 3) := by decide +kernel
theorem dX9_copy_88 : decode cX9_copy 88 = .ok (.iload 4, 2) := by decide +kernel
theorem dX9_copy_90 : decode cX9_copy 90 = .ok (.i2l, 1) := by decide +kernel
theorem dX9_copy_91 : decode cX9_copy 91 = .ok (.iload 5, 2) := by decide +kernel
theorem dX9_copy_93 : decode cX9_copy 93 = .ok (.i2l, 1) := by decide +kernel
theorem dX9_copy_94 : decode cX9_copy 94 = .ok (.ladd, 1) := by decide +kernel
theorem dX9_copy_95 : decode cX9_copy 95 = .ok (.aload_n 0, 1) := by decide +kernel
theorem dX9_copy_96 : decode cX9_copy 96 = .ok (.getfield 22, 3) := by decide +kernel
theorem dX9_copy_99 : decode cX9_copy 99 = .ok (.iload_n 3, 1) := by decide +kernel
theorem dX9_copy_100 : decode cX9_copy 100 = .ok (.iaload, 1) := by decide +kernel
theorem dX9_copy_101 : decode cX9_copy 101 = .ok (.i2l, 1) := by decide +kernel
theorem dX9_copy_102 : decode cX9_copy 102 = .ok (.lcmp, 1) := by decide +kernel
theorem dX9_copy_103 : decode cX9_copy 103 = .ok (.ifCond .le 7, 3) := by decide +kernel
theorem dX9_copy_106 : decode cX9_copy 106 = .ok (.ldc_w 318, 3) := by decide +kernel
theorem dX9_copy_109 : decode cX9_copy 109 = .ok (.ireturn, 1) := by decide +kernel
theorem dX9_copy_110 : decode cX9_copy 110 = .ok (.iconst 0, 1) := by decide +kernel
theorem dX9_copy_111 : decode cX9_copy 111 = .ok (.istore 6, 2) := by decide +kernel
theorem dX9_copy_113 : decode cX9_copy 113 = .ok (.iload 6, 2) := by decide +kernel
theorem dX9_copy_115 : decode cX9_copy 115 = .ok (.iload 5, 2) := by decide +kernel
theorem dX9_copy_117 : decode cX9_copy 117 = .ok (.if_icmp .ge 30, 3) := by decide +kernel
theorem dX9_copy_120 : decode cX9_copy 120 = .ok (.aload_n 0, 1) := by decide +kernel
theorem dX9_copy_121 : decode cX9_copy 121 = .ok (.getfield 55, 3) := by decide +kernel
theorem dX9_copy_124 : decode cX9_copy 124 = .ok (.iload 6, 2) := by decide +kernel
theorem dX9_copy_126 : decode cX9_copy 126 = .ok (.aload_n 0, 1) := by decide +kernel
theorem dX9_copy_127 : decode cX9_copy 127 = .ok (.getfield 25, 3) := by decide +kernel
theorem dX9_copy_130 : decode cX9_copy 130 = .ok (.bipush 24, 2) := by decide +kernel
theorem dX9_copy_132 : decode cX9_copy 132 = .ok (.iload_n 1, 1) := by decide +kernel
theorem dX9_copy_133 : decode cX9_copy 133 = .ok (.imul, 1) := by decide +kernel
theorem dX9_copy_134 : decode cX9_copy 134 = .ok (.iload_n 2, 1) := by decide +kernel
theorem dX9_copy_135 : decode cX9_copy 135 = .ok (.iadd, 1) := by decide +kernel
theorem dX9_copy_136 : decode cX9_copy 136 = .ok (.iload 6, 2) := by decide +kernel
theorem dX9_copy_138 : decode cX9_copy 138 = .ok (.iadd, 1) := by decide +kernel
theorem dX9_copy_139 : decode cX9_copy 139 = .ok (.iaload, 1) := by decide +kernel
theorem dX9_copy_140 : decode cX9_copy 140 = .ok (.iastore, 1) := by decide +kernel
theorem dX9_copy_141 : decode cX9_copy 141 = .ok (.iinc 6 1, 3) := by decide +kernel
theorem dX9_copy_144 : decode cX9_copy 144 = .ok (.goto (-31), 3) := by decide +kernel
theorem dX9_copy_147 : decode cX9_copy 147 = .ok (.iconst 0, 1) := by decide +kernel
theorem dX9_copy_148 : decode cX9_copy 148 = .ok (.istore 6, 2) := by decide +kernel
theorem dX9_copy_150 : decode cX9_copy 150 = .ok (.iload 6, 2) := by decide +kernel
theorem dX9_copy_152 : decode cX9_copy 152 = .ok (.iload 5, 2) := by decide +kernel
theorem dX9_copy_154 : decode cX9_copy 154 = .ok (.if_icmp .ge 31, 3) := by decide +kernel
theorem dX9_copy_157 : decode cX9_copy 157 = .ok (.aload_n 0, 1) := by decide +kernel
theorem dX9_copy_158 : decode cX9_copy 158 = .ok (.getfield 25, 3) := by decide +kernel
theorem dX9_copy_161 : decode cX9_copy 161 = .ok (.bipush 24, 2) := by decide +kernel
theorem dX9_copy_163 : decode cX9_copy 163 = .ok (.iload_n 3, 1) := by decide +kernel
theorem dX9_copy_164 : decode cX9_copy 164 = .ok (.imul, 1) := by decide +kernel
theorem dX9_copy_165 : decode cX9_copy 165 = .ok (.iload 4, 2) := by decide +kernel
theorem dX9_copy_167 : decode cX9_copy 167 = .ok (.iadd, 1) := by decide +kernel
theorem dX9_copy_168 : decode cX9_copy 168 = .ok (.iload 6, 2) := by decide +kernel
theorem dX9_copy_170 : decode cX9_copy 170 = .ok (.iadd, 1) := by decide +kernel
theorem dX9_copy_171 : decode cX9_copy 171 = .ok (.aload_n 0, 1) := by decide +kernel
theorem dX9_copy_172 : decode cX9_copy 172 = .ok (.getfield 55, 3) := by decide +kernel
theorem dX9_copy_175 : decode cX9_copy 175 = .ok (.iload 6, 2) := by decide +kernel
theorem dX9_copy_177 : decode cX9_copy 177 = .ok (.iaload, 1) := by decide +kernel
theorem dX9_copy_178 : decode cX9_copy 178 = .ok (.iastore, 1) := by decide +kernel
theorem dX9_copy_179 : decode cX9_copy 179 = .ok (.iinc 6 1, 3) := by decide +kernel
theorem dX9_copy_182 : decode cX9_copy 182 = .ok (.goto (-32), 3) := by decide +kernel
theorem dX9_copy_185 : decode cX9_copy 185 = .ok (.iload 5, 2) := by decide +kernel
theorem dX9_copy_187 : decode cX9_copy 187 = .ok (.ireturn, 1) := by decide +kernel
theorem dX9_isSlot_0 : decode cX9_isSlot 0 = .ok (.iload_n 0, 1) := by decide +kernel
theorem dX9_isSlot_1 : decode cX9_isSlot 1 = .ok (.i2l, 1) := by decide +kernel
theorem dX9_isSlot_2 : decode cX9_isSlot 2 = .ok (.lconst 0, 1) := by decide +kernel
theorem dX9_isSlot_3 : decode cX9_isSlot 3 = .ok (.ldc2_w 323, 3) := by decide +kernel
theorem dX9_isSlot_6 : decode cX9_isSlot 6 = .ok (.invokestatic 65, 3) := by decide +kernel
theorem dX9_isSlot_9 : decode cX9_isSlot 9 = .ok (.ireturn, 1) := by decide +kernel
theorem dX9_lay_0 : decode cX9_lay 0 = .ok (.iload_n 2, 1) := by decide +kernel
theorem dX9_lay_1 : decode cX9_lay 1 = .ok (.ifCond .eq 33, 3) := by decide +kernel
theorem dX9_lay_4 : decode cX9_lay 4 = .ok (.iload_n 2, 1) := by decide +kernel
theorem dX9_lay_5 : decode cX9_lay 5 = .ok (.iconst 3, 1) := by decide +kernel
theorem dX9_lay_6 : decode cX9_lay 6 = .ok (.if_icmp .eq 28, 3) := by decide +kernel
theorem dX9_lay_9 : decode cX9_lay 9 = .ok (.iload_n 2, 1) := by decide +kernel
theorem dX9_lay_10 : decode cX9_lay 10 = .ok (.iconst 1, 1) := by decide +kernel
theorem dX9_lay_11 : decode cX9_lay 11 = .ok (.if_icmp .ne 11, 3) := by decide +kernel
theorem dX9_lay_14 : decode cX9_lay 14 = .ok (.aload_n 0, 1) := by decide +kernel
theorem dX9_lay_15 : decode cX9_lay 15 = .ok (.iload_n 3, 1) := by decide +kernel
theorem dX9_lay_16 : decode cX9_lay 16 = .ok (.invokevirtual 130, 3) := by decide +kernel
theorem dX9_lay_19 : decode cX9_lay 19 = .ok (.ifCond .ne 15, 3) := by decide +kernel
theorem dX9_lay_22 : decode cX9_lay 22 = .ok (.iload_n 2, 1) := by decide +kernel
theorem dX9_lay_23 : decode cX9_lay 23 = .ok (.iconst 2, 1) := by decide +kernel
theorem dX9_lay_24 : decode cX9_lay 24 = .ok (.if_icmp .ne 14, 3) := by decide +kernel
theorem dX9_lay_27 : decode cX9_lay 27 = .ok (.iload_n 3, 1) := by decide +kernel
theorem dX9_lay_28 : decode cX9_lay 28 = .ok (.invokestatic 311, 3) := by decide +kernel
theorem dX9_lay_31 : decode cX9_lay 31 = .ok (.ifCond .eq 7, 3) := by decide +kernel
theorem dX9_lay_34 : decode cX9_lay 34 = .ok (.iconst 1, 1) := by decide +kernel
theorem dX9_lay_35 : decode cX9_lay 35 = .ok (.goto 4, 3) := by decide +kernel
theorem dX9_lay_38 : decode cX9_lay 38 = .ok (.iconst 0, 1) := by decide +kernel
theorem dX9_lay_39 : decode cX9_lay 39 = .ok (.istore 4, 2) := by decide +kernel
theorem dX9_lay_41 : decode cX9_lay 41 = .ok (.iload_n 1, 1) := by decide +kernel
theorem dX9_lay_42 : decode cX9_lay 42 = .ok (.invokestatic 325, 3) := by decide +kernel
theorem dX9_lay_45 : decode cX9_lay 45 = .ok (.ifCond .eq 8, 3) := by decide +kernel
theorem dX9_lay_48 : decode cX9_lay 48 = .ok (.iload 4, 2) := by decide +kernel
theorem dX9_lay_50 : decode cX9_lay 50 = .ok (.ifCond .ne 6, 3) := by decide +kernel
theorem dX9_lay_53 : decode cX9_lay 53 = .ok (.ldc 72, 2) := by decide +kernel
theorem dX9_lay_55 : decode cX9_lay 55 = .ok (.ireturn, 1) := by decide +kernel
theorem dX9_lay_56 : decode cX9_lay 56 = .ok (.iload_n 2, 1) := by decide +kernel
theorem dX9_lay_57 : decode cX9_lay 57 = .ok (.iconst 2, 1) := by decide +kernel
theorem dX9_lay_58 : decode cX9_lay 58 = .ok (.if_icmp .ne 16, 3) := by decide +kernel
theorem dX9_lay_61 : decode cX9_lay 61 = .ok (.aload_n 0, 1) := by decide +kernel
theorem dX9_lay_62 : decode cX9_lay 62 = .ok (.getfield 19, 3) := by decide +kernel
theorem dX9_lay_65 : decode cX9_lay 65 = .ok (.iload_n 3, 1) := by decide +kernel
theorem dX9_lay_66 : decode cX9_lay 66 = .ok (.iaload, 1) := by decide +kernel
theorem dX9_lay_67 : decode cX9_lay 67 = .ok (.ifCond .ge 7, 3) := by decide +kernel
theorem dX9_lay_70 : decode cX9_lay 70 = .ok (.ldc_w 317, 3) := by decide +kernel
theorem dX9_lay_73 : decode cX9_lay 73 = .ok (.ireturn, 1) := by decide +kernel
theorem dX9_lay_74 : decode cX9_lay 74 = .ok (.aload_n 0, 1) := by decide +kernel
theorem dX9_lay_75 : decode cX9_lay 75 = .ok (.getfield 28, 3) := by decide +kernel
theorem dX9_lay_78 : decode cX9_lay 78 = .ok (.iload_n 1, 1) := by decide +kernel
theorem dX9_lay_79 : decode cX9_lay 79 = .ok (.iaload, 1) := by decide +kernel
theorem dX9_lay_80 : decode cX9_lay 80 = .ok (.istore 5, 2) := by decide +kernel
theorem dX9_lay_82 : decode cX9_lay 82 = .ok (.aload_n 0, 1) := by decide +kernel
theorem dX9_lay_83 : decode cX9_lay 83 = .ok (.getfield 28, 3) := by decide +kernel
theorem dX9_lay_86 : decode cX9_lay 86 = .ok (.iload_n 1, 1) := by decide +kernel
theorem dX9_lay_87 : decode cX9_lay 87 = .ok (.iload_n 2, 1) := by decide +kernel
theorem dX9_lay_88 : decode cX9_lay 88 = .ok (.iastore, 1) := by decide +kernel
theorem dX9_lay_89 : decode cX9_lay 89 = .ok (.aload_n 0, 1) := by decide +kernel
theorem dX9_lay_90 : decode cX9_lay 90 = .ok (.getfield 31, 3) := by decide +kernel
theorem dX9_lay_93 : decode cX9_lay 93 = .ok (.iload_n 1, 1) := by decide +kernel
theorem dX9_lay_94 : decode cX9_lay 94 = .ok (.iload_n 2, 1) := by decide +kernel
theorem dX9_lay_95 : decode cX9_lay 95 = .ok (.iconst 1, 1) := by decide +kernel
theorem dX9_lay_96 : decode cX9_lay 96 = .ok (.if_icmp .ne 12, 3) := by decide +kernel
theorem dX9_lay_99 : decode cX9_lay 99 = .ok (.aload_n 0, 1) := by decide +kernel
theorem dX9_lay_100 : decode cX9_lay 100 = .ok (.iload_n 3, 1) := by decide +kernel
theorem dX9_lay_101 : decode cX9_lay 101 = .ok (.iconst 0, 1) := by decide +kernel
theorem dX9_lay_102 : decode cX9_lay 102 = .ok (.invokevirtual 91, 3) := by decide +kernel
theorem dX9_lay_105 : decode cX9_lay 105 = .ok (.goto 4, 3) := by decide +kernel
theorem dX9_lay_108 : decode cX9_lay 108 = .ok (.iload_n 3, 1) := by decide +kernel
theorem dX9_lay_109 : decode cX9_lay 109 = .ok (.iastore, 1) := by decide +kernel
theorem dX9_lay_110 : decode cX9_lay 110 = .ok (.aload_n 0, 1) := by decide +kernel
theorem dX9_lay_111 : decode cX9_lay 111 = .ok (.getfield 34, 3) := by decide +kernel
theorem dX9_lay_114 : decode cX9_lay 114 = .ok (.iload_n 1, 1) := by decide +kernel
theorem dX9_lay_115 : decode cX9_lay 115 = .ok (.iload_n 2, 1) := by decide +kernel
theorem dX9_lay_116 : decode cX9_lay 116 = .ok (.iconst 1, 1) := by decide +kernel
theorem dX9_lay_117 : decode cX9_lay 117 = .ok (.if_icmp .ne 11, 3) := by decide +kernel
theorem dX9_lay_120 : decode cX9_lay 120 = .ok (.aload_n 0, 1) := by decide +kernel
theorem dX9_lay_121 : decode cX9_lay 121 = .ok (.iload_n 3, 1) := by decide +kernel
theorem dX9_lay_122 : decode cX9_lay 122 = .ok (.invokevirtual 135, 3) := by decide +kernel
theorem dX9_lay_125 : decode cX9_lay 125 = .ok (.goto 4, 3) := by decide +kernel
theorem dX9_lay_128 : decode cX9_lay 128 = .ok (.iconst 0, 1) := by decide +kernel
theorem dX9_lay_129 : decode cX9_lay 129 = .ok (.iastore, 1) := by decide +kernel
theorem dX9_lay_130 : decode cX9_lay 130 = .ok (.iload_n 2, 1) := by decide +kernel
theorem dX9_lay_131 : decode cX9_lay 131 = .ok (.iconst 2, 1) := by decide +kernel
theorem dX9_lay_132 : decode cX9_lay 132 = .ok (.if_icmp .ne 55, 3) := by decide +kernel
theorem dX9_lay_135 : decode cX9_lay 135 = .ok (.aload_n 0, 1) := by decide +kernel
theorem dX9_lay_136 : decode cX9_lay 136 = .ok (.getfield 37, 3) := by decide +kernel
theorem dX9_lay_139 : decode cX9_lay 139 = .ok (.iload_n 1, 1) := by decide +kernel
theorem dX9_lay_140 : decode cX9_lay 140 = .ok (.aload_n 0, 1) := by decide +kernel
theorem dX9_lay_141 : decode cX9_lay 141 = .ok (.getfield 22, 3) := by decide +kernel
theorem dX9_lay_144 : decode cX9_lay 144 = .ok (.iload_n 3, 1) := by decide +kernel
theorem dX9_lay_145 : decode cX9_lay 145 = .ok (.iaload, 1) := by decide +kernel
theorem dX9_lay_146 : decode cX9_lay 146 = .ok (.iastore, 1) := by decide +kernel
theorem dX9_lay_147 : decode cX9_lay 147 = .ok (.iconst 0, 1) := by decide +kernel
theorem dX9_lay_148 : decode cX9_lay 148 = .ok (.istore 6, 2) := by decide +kernel
theorem dX9_lay_150 : decode cX9_lay 150 = .ok (.iload 6, 2) := by decide +kernel
theorem dX9_lay_152 : decode cX9_lay 152 = .ok (.bipush 24, 2) := by decide +kernel
theorem dX9_lay_154 : decode cX9_lay 154 = .ok (.if_icmp .ge 33, 3) := by decide +kernel
theorem dX9_lay_157 : decode cX9_lay 157 = .ok (.aload_n 0, 1) := by decide +kernel
theorem dX9_lay_158 : decode cX9_lay 158 = .ok (.getfield 40, 3) := by decide +kernel
theorem dX9_lay_161 : decode cX9_lay 161 = .ok (.bipush 24, 2) := by decide +kernel
theorem dX9_lay_163 : decode cX9_lay 163 = .ok (.iload_n 1, 1) := by decide +kernel
theorem dX9_lay_164 : decode cX9_lay 164 = .ok (.imul, 1) := by decide +kernel
theorem dX9_lay_165 : decode cX9_lay 165 = .ok (.iload 6, 2) := by decide +kernel
theorem dX9_lay_167 : decode cX9_lay 167 = .ok (.iadd, 1) := by decide +kernel
theorem dX9_lay_168 : decode cX9_lay 168 = .ok (.aload_n 0, 1) := by decide +kernel
theorem dX9_lay_169 : decode cX9_lay 169 = .ok (.getfield 25, 3) := by decide +kernel
theorem dX9_lay_172 : decode cX9_lay 172 = .ok (.bipush 24, 2) := by decide +kernel
theorem dX9_lay_174 : decode cX9_lay 174 = .ok (.iload_n 3, 1) := by decide +kernel
theorem dX9_lay_175 : decode cX9_lay 175 = .ok (.imul, 1) := by decide +kernel
theorem dX9_lay_176 : decode cX9_lay 176 = .ok (.iload 6, 2) := by decide +kernel
theorem dX9_lay_178 : decode cX9_lay 178 = .ok (.iadd, 1) := by decide +kernel
theorem dX9_lay_179 : decode cX9_lay 179 = .ok (.iaload, 1) := by decide +kernel
theorem dX9_lay_180 : decode cX9_lay 180 = .ok (.iastore, 1) := by decide +kernel
theorem dX9_lay_181 : decode cX9_lay 181 = .ok (.iinc 6 1, 3) := by decide +kernel
theorem dX9_lay_184 : decode cX9_lay 184 = .ok (.goto (-34), 3) := by decide +kernel
theorem dX9_lay_187 : decode cX9_lay 187 = .ok (.iload 5, 2) := by decide +kernel
theorem dX9_lay_189 : decode cX9_lay 189 = .ok (.ireturn, 1) := by decide +kernel
theorem dX9_ask_0 : decode cX9_ask 0 = .ok (.iload_n 1, 1) := by decide +kernel
theorem dX9_ask_1 : decode cX9_ask 1 = .ok (.invokestatic 325, 3) := by decide +kernel
theorem dX9_ask_4 : decode cX9_ask 4 = .ok (.ifCond .eq 15, 3) := by decide +kernel
theorem dX9_ask_7 : decode cX9_ask 7 = .ok (.iload_n 2, 1) := by decide +kernel
theorem dX9_ask_8 : decode cX9_ask 8 = .ok (.i2l, 1) := by decide +kernel
theorem dX9_ask_9 : decode cX9_ask 9 = .ok (.lconst 0, 1) := by decide +kernel
theorem dX9_ask_10 : decode cX9_ask 10 = .ok (.ldc2_w 122, 3) := by decide +kernel
theorem dX9_ask_13 : decode cX9_ask 13 = .ok (.invokestatic 65, 3) := by decide +kernel
theorem dX9_ask_16 : decode cX9_ask 16 = .ok (.ifCond .ne 6, 3) := by decide +kernel
theorem dX9_ask_19 : decode cX9_ask 19 = .ok (.ldc 72, 2) := by decide +kernel
theorem dX9_ask_21 : decode cX9_ask 21 = .ok (.ireturn, 1) := by decide +kernel
theorem dX9_ask_22 : decode cX9_ask 22 = .ok (.aload_n 0, 1) := by decide +kernel
theorem dX9_ask_23 : decode cX9_ask 23 = .ok (.getfield 28, 3) := by decide +kernel
theorem dX9_ask_26 : decode cX9_ask 26 = .ok (.iload_n 1, 1) := by decide +kernel
theorem dX9_ask_27 : decode cX9_ask 27 = .ok (.iaload, 1) := by decide +kernel
theorem dX9_ask_28 : decode cX9_ask 28 = .ok (.ifCond .ne 7, 3) := by decide +kernel
theorem dX9_ask_31 : decode cX9_ask 31 = .ok (.ldc_w 317, 3) := by decide +kernel
theorem dX9_ask_34 : decode cX9_ask 34 = .ok (.ireturn, 1) := by decide +kernel
theorem dX9_ask_35 : decode cX9_ask 35 = .ok (.aload_n 0, 1) := by decide +kernel
theorem dX9_ask_36 : decode cX9_ask 36 = .ok (.getfield 28, 3) := by decide +kernel
theorem dX9_ask_39 : decode cX9_ask 39 = .ok (.iload_n 1, 1) := by decide +kernel
theorem dX9_ask_40 : decode cX9_ask 40 = .ok (.iaload, 1) := by decide +kernel
theorem dX9_ask_41 : decode cX9_ask 41 = .ok (.iconst 1, 1) := by decide +kernel
theorem dX9_ask_42 : decode cX9_ask 42 = .ok (.if_icmp .ne 25, 3) := by decide +kernel
theorem dX9_ask_45 : decode cX9_ask 45 = .ok (.aload_n 0, 1) := by decide +kernel
theorem dX9_ask_46 : decode cX9_ask 46 = .ok (.getfield 31, 3) := by decide +kernel
theorem dX9_ask_49 : decode cX9_ask 49 = .ok (.iload_n 1, 1) := by decide +kernel
theorem dX9_ask_50 : decode cX9_ask 50 = .ok (.iaload, 1) := by decide +kernel
theorem dX9_ask_51 : decode cX9_ask 51 = .ok (.iload_n 2, 1) := by decide +kernel
theorem dX9_ask_52 : decode cX9_ask 52 = .ok (.invokestatic 138, 3) := by decide +kernel
theorem dX9_ask_55 : decode cX9_ask 55 = .ok (.ifCond .eq 12, 3) := by decide +kernel
theorem dX9_ask_58 : decode cX9_ask 58 = .ok (.aload_n 0, 1) := by decide +kernel
theorem dX9_ask_59 : decode cX9_ask 59 = .ok (.getfield 34, 3) := by decide +kernel
theorem dX9_ask_62 : decode cX9_ask 62 = .ok (.iload_n 1, 1) := by decide +kernel
theorem dX9_ask_63 : decode cX9_ask 63 = .ok (.iaload, 1) := by decide +kernel
theorem dX9_ask_64 : decode cX9_ask 64 = .ok (.goto 5, 3) := by decide +kernel
theorem dX9_ask_67 : decode cX9_ask 67 = .ok (.ldc 142, 2) := by decide +kernel
theorem dX9_ask_69 : decode cX9_ask 69 = .ok (.ireturn, 1) := by decide +kernel
theorem dX9_item_0 : decode cX9_item 0 = .ok (.iload_n 1, 1) := by decide +kernel
theorem dX9_item_1 : decode cX9_item 1 = .ok (.invokestatic 325, 3) := by decide +kernel
theorem dX9_item_4 : decode cX9_item 4 = .ok (.ifCond .ne 6, 3) := by decide +kernel
theorem dX9_item_7 : decode cX9_item 7 = .ok (.ldc 72, 2) := by decide +kernel
theorem dX9_item_9 : decode cX9_item 9 = .ok (.ireturn, 1) := by decide +kernel
theorem dX9_item_10 : decode cX9_item 10 = .ok (.aload_n 0, 1) := by decide +kernel
theorem dX9_item_11 : decode cX9_item 11 = .ok (.getfield 28, 3) := by decide +kernel
theorem dX9_item_14 : decode cX9_item 14 = .ok (.iload_n 1, 1) := by decide +kernel
theorem dX9_item_15 : decode cX9_item 15 = .ok (.iaload, 1) := by decide +kernel
theorem dX9_item_16 : decode cX9_item 16 = .ok (.iconst 2, 1) := by decide +kernel
theorem dX9_item_17 : decode cX9_item 17 = .ok (.if_icmp .eq 21, 3) := by decide +kernel
theorem dX9_item_20 : decode cX9_item 20 = .ok (.aload_n 0, 1) := by decide +kernel
theorem dX9_item_21 : decode cX9_item 21 = .ok (.getfield 28, 3) := by decide +kernel
theorem dX9_item_24 : decode cX9_item 24 = .ok (.iload_n 1, 1) := by decide +kernel
theorem dX9_item_25 : decode cX9_item 25 = .ok (.iaload, 1) := by decide +kernel
theorem dX9_item_26 : decode cX9_item 26 = .ok (.ifCond .ne 9, 3) := by decide +kernel
theorem dX9_item_29 : decode cX9_item 29 = .ok (.ldc_w 317, 3) := by decide +kernel
theorem dX9_item_32 : decode cX9_item 32 = .ok (.goto 5, 3) := by decide +kernel
theorem dX9_item_35 : decode cX9_item 35 = .ok (.ldc 142, 2) := by decide +kernel
theorem dX9_item_37 : decode cX9_item 37 = .ok (.ireturn, 1) := by decide +kernel
theorem dX9_item_38 : decode cX9_item 38 = .ok (.iload_n 2, 1) := by decide +kernel
theorem dX9_item_39 : decode cX9_item 39 = .ok (.i2l, 1) := by decide +kernel
theorem dX9_item_40 : decode cX9_item 40 = .ok (.lconst 0, 1) := by decide +kernel
theorem dX9_item_41 : decode cX9_item 41 = .ok (.aload_n 0, 1) := by decide +kernel
theorem dX9_item_42 : decode cX9_item 42 = .ok (.getfield 37, 3) := by decide +kernel
theorem dX9_item_45 : decode cX9_item 45 = .ok (.iload_n 1, 1) := by decide +kernel
theorem dX9_item_46 : decode cX9_item 46 = .ok (.iaload, 1) := by decide +kernel
theorem dX9_item_47 : decode cX9_item 47 = .ok (.iconst 1, 1) := by decide +kernel
theorem dX9_item_48 : decode cX9_item 48 = .ok (.isub, 1) := by decide +kernel
theorem dX9_item_49 : decode cX9_item 49 = .ok (.i2l, 1) := by decide +kernel
theorem dX9_item_50 : decode cX9_item 50 = .ok (.invokestatic 65, 3) := by decide +kernel
theorem dX9_item_53 : decode cX9_item 53 = .ok (.ifCond .ne 7, 3) := by decide +kernel
theorem dX9_item_56 : decode cX9_item 56 = .ok (.ldc_w 318, 3) := by decide +kernel
theorem dX9_item_59 : decode cX9_item 59 = .ok (.ireturn, 1) := by decide +kernel
theorem dX9_item_60 : decode cX9_item 60 = .ok (.aload_n 0, 1) := by decide +kernel
theorem dX9_item_61 : decode cX9_item 61 = .ok (.getfield 40, 3) := by decide +kernel
theorem dX9_item_64 : decode cX9_item 64 = .ok (.bipush 24, 2) := by decide +kernel
theorem dX9_item_66 : decode cX9_item 66 = .ok (.iload_n 1, 1) := by decide +kernel
theorem dX9_item_67 : decode cX9_item 67 = .ok (.imul, 1) := by decide +kernel
theorem dX9_item_68 : decode cX9_item 68 = .ok (.iload_n 2, 1) := by decide +kernel
theorem dX9_item_69 : decode cX9_item 69 = .ok (.iadd, 1) := by decide +kernel
theorem dX9_item_70 : decode cX9_item 70 = .ok (.iaload, 1) := by decide +kernel
theorem dX9_item_71 : decode cX9_item 71 = .ok (.istore_n 3, 1) := by decide +kernel
theorem dX9_item_72 : decode cX9_item 72 = .ok (.iload_n 3, 1) := by decide +kernel
theorem dX9_item_73 : decode cX9_item 73 = .ok (.ldc 64, 2) := by decide +kernel
theorem dX9_item_75 : decode cX9_item 75 = .ok (.if_icmp .ne 8, 3) := by decide +kernel
theorem dX9_item_78 : decode cX9_item 78 = .ok (.ldc 142, 2) := by decide +kernel
theorem dX9_item_80 : decode cX9_item 80 = .ok (.goto 4, 3) := by decide +kernel
theorem dX9_item_83 : decode cX9_item 83 = .ok (.iload_n 3, 1) := by decide +kernel
theorem dX9_item_84 : decode cX9_item 84 = .ok (.ireturn, 1) := by decide +kernel
theorem dX9_rest_0 : decode cX9_rest 0 = .ok (.iload_n 1, 1) := by decide +kernel
theorem dX9_rest_1 : decode cX9_rest 1 = .ok (.invokestatic 325, 3) := by decide +kernel
theorem dX9_rest_4 : decode cX9_rest 4 = .ok (.ifCond .ne 6, 3) := by decide +kernel
theorem dX9_rest_7 : decode cX9_rest 7 = .ok (.ldc 72, 2) := by decide +kernel
theorem dX9_rest_9 : decode cX9_rest 9 = .ok (.ireturn, 1) := by decide +kernel
theorem dX9_rest_10 : decode cX9_rest 10 = .ok (.aload_n 0, 1) := by decide +kernel
theorem dX9_rest_11 : decode cX9_rest 11 = .ok (.getfield 28, 3) := by decide +kernel
theorem dX9_rest_14 : decode cX9_rest 14 = .ok (.iload_n 1, 1) := by decide +kernel
theorem dX9_rest_15 : decode cX9_rest 15 = .ok (.iaload, 1) := by decide +kernel
theorem dX9_rest_16 : decode cX9_rest 16 = .ok (.iconst 3, 1) := by decide +kernel
theorem dX9_rest_17 : decode cX9_rest 17 = .ok (.if_icmp .eq 21, 3) := by decide +kernel
theorem dX9_rest_20 : decode cX9_rest 20 = .ok (.aload_n 0, 1) := by decide +kernel
theorem dX9_rest_21 : decode cX9_rest 21 = .ok (.getfield 28, 3) := by decide +kernel
theorem dX9_rest_24 : decode cX9_rest 24 = .ok (.iload_n 1, 1) := by decide +kernel
theorem dX9_rest_25 : decode cX9_rest 25 = .ok (.iaload, 1) := by decide +kernel
theorem dX9_rest_26 : decode cX9_rest 26 = .ok (.ifCond .ne 9, 3) := by decide +kernel
theorem dX9_rest_29 : decode cX9_rest 29 = .ok (.ldc_w 317, 3) := by decide +kernel
theorem dX9_rest_32 : decode cX9_rest 32 = .ok (.goto 5, 3) := by decide +kernel
theorem dX9_rest_35 : decode cX9_rest 35 = .ok (.ldc 142, 2) := by decide +kernel
theorem dX9_rest_37 : decode cX9_rest 37 = .ok (.ireturn, 1) := by decide +kernel
theorem dX9_rest_38 : decode cX9_rest 38 = .ok (.iload_n 2, 1) := by decide +kernel
theorem dX9_rest_39 : decode cX9_rest 39 = .ok (.ifCond .ne 9, 3) := by decide +kernel
theorem dX9_rest_42 : decode cX9_rest 42 = .ok (.ldc_w 328, 3) := by decide +kernel
theorem dX9_rest_45 : decode cX9_rest 45 = .ok (.goto 11, 3) := by decide +kernel
theorem dX9_rest_48 : decode cX9_rest 48 = .ok (.aload_n 0, 1) := by decide +kernel
theorem dX9_rest_49 : decode cX9_rest 49 = .ok (.getfield 31, 3) := by decide +kernel
theorem dX9_rest_52 : decode cX9_rest 52 = .ok (.iload_n 1, 1) := by decide +kernel
theorem dX9_rest_53 : decode cX9_rest 53 = .ok (.iaload, 1) := by decide +kernel
theorem dX9_rest_54 : decode cX9_rest 54 = .ok (.iload_n 2, 1) := by decide +kernel
theorem dX9_rest_55 : decode cX9_rest 55 = .ok (.irem, 1) := by decide +kernel
theorem dX9_rest_56 : decode cX9_rest 56 = .ok (.ireturn, 1) := by decide +kernel
theorem dX9_tell_0 : decode cX9_tell 0 = .ok (.aload_n 0, 1) := by decide +kernel
theorem dX9_tell_1 : decode cX9_tell 1 = .ok (.getfield 329, 3) := by decide +kernel
theorem dX9_tell_4 : decode cX9_tell 4 = .ok (.bipush 60, 2) := by decide +kernel
theorem dX9_tell_6 : decode cX9_tell 6 = .ok (.if_icmp .ne 6, 3) := by decide +kernel
theorem dX9_tell_9 : decode cX9_tell 9 = .ok (.ldc 73, 2) := by decide +kernel
theorem dX9_tell_11 : decode cX9_tell 11 = .ok (.ireturn, 1) := by decide +kernel
theorem dX9_tell_12 : decode cX9_tell 12 = .ok (.aload_n 0, 1) := by decide +kernel
theorem dX9_tell_13 : decode cX9_tell 13 = .ok (.getfield 58, 3) := by decide +kernel
theorem dX9_tell_16 : decode cX9_tell 16 = .ok (.aload_n 0, 1) := by decide +kernel
theorem dX9_tell_17 : decode cX9_tell 17 = .ok (.getfield 329, 3) := by decide +kernel
theorem dX9_tell_20 : decode cX9_tell 20 = .ok (.iload_n 1, 1) := by decide +kernel
theorem dX9_tell_21 : decode cX9_tell 21 = .ok (.iastore, 1) := by decide +kernel
theorem dX9_tell_22 : decode cX9_tell 22 = .ok (.aload_n 0, 1) := by decide +kernel
theorem dX9_tell_23 : decode cX9_tell 23 = .ok (.dup, 1) := by decide +kernel
theorem dX9_tell_24 : decode cX9_tell 24 = .ok (.getfield 329, 3) := by decide +kernel
theorem dX9_tell_27 : decode cX9_tell 27 = .ok (.iconst 1, 1) := by decide +kernel
theorem dX9_tell_28 : decode cX9_tell 28 = .ok (.iadd, 1) := by decide +kernel
theorem dX9_tell_29 : decode cX9_tell 29 = .ok (.putfield 329, 3) := by decide +kernel
theorem dX9_tell_32 : decode cX9_tell 32 = .ok (.aload_n 0, 1) := by decide +kernel
theorem dX9_tell_33 : decode cX9_tell 33 = .ok (.getfield 329, 3) := by decide +kernel
theorem dX9_tell_36 : decode cX9_tell 36 = .ok (.ireturn, 1) := by decide +kernel
theorem dX9_setAside_0 : decode cX9_setAside 0 = .ok (.iconst 0, 1) := by decide +kernel
theorem dX9_setAside_1 : decode cX9_setAside 1 = .ok (.istore_n 3, 1) := by decide +kernel
theorem dX9_setAside_2 : decode cX9_setAside 2 = .ok (.iload_n 3, 1) := by decide +kernel
theorem dX9_setAside_3 : decode cX9_setAside 3 = .ok (.sipush 2888, 3) := by decide +kernel
theorem dX9_setAside_6 : decode cX9_setAside 6 = .ok (.if_icmp .ge 15, 3) := by decide +kernel
theorem dX9_setAside_9 : decode cX9_setAside 9 = .ok (.aload_n 2, 1) := by decide +kernel
theorem dX9_setAside_10 : decode cX9_setAside 10 = .ok (.iload_n 3, 1) := by decide +kernel
theorem dX9_setAside_11 : decode cX9_setAside 11 = .ok (.aload_n 1, 1) := by decide +kernel
theorem dX9_setAside_12 : decode cX9_setAside 12 = .ok (.iload_n 3, 1) := by decide +kernel
theorem dX9_setAside_13 : decode cX9_setAside 13 = .ok (.iaload, 1) := by decide +kernel
theorem dX9_setAside_14 : decode cX9_setAside 14 = .ok (.iastore, 1) := by decide +kernel
theorem dX9_setAside_15 : decode cX9_setAside 15 = .ok (.iinc 3 1, 3) := by decide +kernel
theorem dX9_setAside_18 : decode cX9_setAside 18 = .ok (.goto (-16), 3) := by decide +kernel
theorem dX9_setAside_21 : decode cX9_setAside 21 = .ok (.return_, 1) := by decide +kernel
theorem dX9_check_0 : decode cX9_check 0 = .ok (.aload_n 0, 1) := by decide +kernel
theorem dX9_check_1 : decode cX9_check 1 = .ok (.getfield 329, 3) := by decide +kernel
theorem dX9_check_4 : decode cX9_check 4 = .ok (.istore_n 2, 1) := by decide +kernel
theorem dX9_check_5 : decode cX9_check 5 = .ok (.aload_n 0, 1) := by decide +kernel
theorem dX9_check_6 : decode cX9_check 6 = .ok (.iconst 0, 1) := by decide +kernel
theorem dX9_check_7 : decode cX9_check 7 = .ok (.putfield 329, 3) := by decide +kernel
theorem dX9_check_10 : decode cX9_check 10 = .ok (.iload_n 1, 1) := by decide +kernel
theorem dX9_check_11 : decode cX9_check 11 = .ok (.i2l, 1) := by decide +kernel
theorem dX9_check_12 : decode cX9_check 12 = .ok (.lconst 1, 1) := by decide +kernel
theorem dX9_check_13 : decode cX9_check 13 = .ok (.ldc2_w 332, 3) := by decide +kernel
theorem dX9_check_16 : decode cX9_check 16 = .ok (.invokestatic 65, 3) := by decide +kernel
theorem dX9_check_19 : decode cX9_check 19 = .ok (.ifCond .ne 6, 3) := by decide +kernel
theorem dX9_check_22 : decode cX9_check 22 = .ok (.ldc 72, 2) := by decide +kernel
theorem dX9_check_24 : decode cX9_check 24 = .ok (.ireturn, 1) := by decide +kernel
theorem dX9_check_25 : decode cX9_check 25 = .ok (.aload_n 0, 1) := by decide +kernel
theorem dX9_check_26 : decode cX9_check 26 = .ok (.getfield 334, 3) := by decide +kernel
theorem dX9_check_29 : decode cX9_check 29 = .ok (.ifCond .ne 7, 3) := by decide +kernel
theorem dX9_check_32 : decode cX9_check 32 = .ok (.ldc_w 328, 3) := by decide +kernel
theorem dX9_check_35 : decode cX9_check 35 = .ok (.ireturn, 1) := by decide +kernel
theorem dX9_check_36 : decode cX9_check 36 = .ok (.aload_n 0, 1) := by decide +kernel
theorem dX9_check_37 : decode cX9_check 37 = .ok (.aload_n 0, 1) := by decide +kernel
theorem dX9_check_38 : decode cX9_check 38 = .ok (.getfield 7, 3) := by decide +kernel
theorem dX9_check_41 : decode cX9_check 41 = .ok (.aload_n 0, 1) := by decide +kernel
theorem dX9_check_42 : decode cX9_check 42 = .ok (.getfield 16, 3) := by decide +kernel
theorem dX9_check_45 : decode cX9_check 45 = .ok (.invokevirtual 337, 3) := by decide +kernel
theorem dX9_check_48 : decode cX9_check 48 = .ok (.aload_n 0, 1) := by decide +kernel
theorem dX9_check_49 : decode cX9_check 49 = .ok (.aload_n 0, 1) := by decide +kernel
theorem dX9_check_50 : decode cX9_check 50 = .ok (.getfield 13, 3) := by decide +kernel
theorem dX9_check_53 : decode cX9_check 53 = .ok (.aload_n 0, 1) := by decide +kernel
theorem dX9_check_54 : decode cX9_check 54 = .ok (.getfield 7, 3) := by decide +kernel
theorem dX9_check_57 : decode cX9_check 57 = .ok (.invokevirtual 337, 3) := by decide +kernel
theorem dX9_check_60 : decode cX9_check 60 = .ok (.iconst 0, 1) := by decide +kernel
theorem dX9_check_61 : decode cX9_check 61 = .ok (.istore_n 3, 1) := by decide +kernel
theorem dX9_check_62 : decode cX9_check 62 = .ok (.iconst 0, 1) := by decide +kernel
theorem dX9_check_63 : decode cX9_check 63 = .ok (.istore 4, 2) := by decide +kernel
theorem dX9_check_65 : decode cX9_check 65 = .ok (.iload 4, 2) := by decide +kernel
theorem dX9_check_67 : decode cX9_check 67 = .ok (.iload_n 1, 1) := by decide +kernel
theorem dX9_check_68 : decode cX9_check 68 = .ok (.if_icmp .ge 76, 3) := by decide +kernel
theorem dX9_check_71 : decode cX9_check 71 = .ok (.aload_n 0, 1) := by decide +kernel
theorem dX9_check_72 : decode cX9_check 72 = .ok (.getfield 7, 3) := by decide +kernel
theorem dX9_check_75 : decode cX9_check 75 = .ok (.bipush 6, 2) := by decide +kernel
theorem dX9_check_77 : decode cX9_check 77 = .ok (.iaload, 1) := by decide +kernel
theorem dX9_check_78 : decode cX9_check 78 = .ok (.sipush 9999, 3) := by decide +kernel
theorem dX9_check_81 : decode cX9_check 81 = .ok (.if_icmp .ge 63, 3) := by decide +kernel
theorem dX9_check_84 : decode cX9_check 84 = .ok (.aload_n 0, 1) := by decide +kernel
theorem dX9_check_85 : decode cX9_check 85 = .ok (.invokevirtual 176, 3) := by decide +kernel
theorem dX9_check_88 : decode cX9_check 88 = .ok (.aload_n 0, 1) := by decide +kernel
theorem dX9_check_89 : decode cX9_check 89 = .ok (.getfield 61, 3) := by decide +kernel
theorem dX9_check_92 : decode cX9_check 92 = .ok (.iload_n 3, 1) := by decide +kernel
theorem dX9_check_93 : decode cX9_check 93 = .ok (.aload_n 0, 1) := by decide +kernel
theorem dX9_check_94 : decode cX9_check 94 = .ok (.getfield 161, 3) := by decide +kernel
theorem dX9_check_97 : decode cX9_check 97 = .ok (.ifCond .ge 8, 3) := by decide +kernel
theorem dX9_check_100 : decode cX9_check 100 = .ok (.bipush 99, 2) := by decide +kernel
theorem dX9_check_102 : decode cX9_check 102 = .ok (.goto 7, 3) := by decide +kernel
theorem dX9_check_105 : decode cX9_check 105 = .ok (.aload_n 0, 1) := by decide +kernel
theorem dX9_check_106 : decode cX9_check 106 = .ok (.getfield 161, 3) := by decide +kernel
theorem dX9_check_109 : decode cX9_check 109 = .ok (.iastore, 1) := by decide +kernel
theorem dX9_check_110 : decode cX9_check 110 = .ok (.aload_n 0, 1) := by decide +kernel
theorem dX9_check_111 : decode cX9_check 111 = .ok (.getfield 61, 3) := by decide +kernel
theorem dX9_check_114 : decode cX9_check 114 = .ok (.iload_n 3, 1) := by decide +kernel
theorem dX9_check_115 : decode cX9_check 115 = .ok (.iconst 1, 1) := by decide +kernel
theorem dX9_check_116 : decode cX9_check 116 = .ok (.iadd, 1) := by decide +kernel
theorem dX9_check_117 : decode cX9_check 117 = .ok (.aload_n 0, 1) := by decide +kernel
theorem dX9_check_118 : decode cX9_check 118 = .ok (.getfield 7, 3) := by decide +kernel
theorem dX9_check_121 : decode cX9_check 121 = .ok (.bipush 8, 2) := by decide +kernel
theorem dX9_check_123 : decode cX9_check 123 = .ok (.iaload, 1) := by decide +kernel
theorem dX9_check_124 : decode cX9_check 124 = .ok (.bipush 100, 2) := by decide +kernel
theorem dX9_check_126 : decode cX9_check 126 = .ok (.aload_n 0, 1) := by decide +kernel
theorem dX9_check_127 : decode cX9_check 127 = .ok (.getfield 7, 3) := by decide +kernel
theorem dX9_check_130 : decode cX9_check 130 = .ok (.iconst 3, 1) := by decide +kernel
theorem dX9_check_131 : decode cX9_check 131 = .ok (.iaload, 1) := by decide +kernel
theorem dX9_check_132 : decode cX9_check 132 = .ok (.imul, 1) := by decide +kernel
theorem dX9_check_133 : decode cX9_check 133 = .ok (.iadd, 1) := by decide +kernel
theorem dX9_check_134 : decode cX9_check 134 = .ok (.iastore, 1) := by decide +kernel
theorem dX9_check_135 : decode cX9_check 135 = .ok (.iinc 3 2, 3) := by decide +kernel
theorem dX9_check_138 : decode cX9_check 138 = .ok (.iinc 4 1, 3) := by decide +kernel
theorem dX9_check_141 : decode cX9_check 141 = .ok (.goto (-76), 3) := by decide +kernel
theorem dX9_check_144 : decode cX9_check 144 = .ok (.aload_n 0, 1) := by decide +kernel
theorem dX9_check_145 : decode cX9_check 145 = .ok (.aload_n 0, 1) := by decide +kernel
theorem dX9_check_146 : decode cX9_check 146 = .ok (.getfield 16, 3) := by decide +kernel
theorem dX9_check_149 : decode cX9_check 149 = .ok (.aload_n 0, 1) := by decide +kernel
theorem dX9_check_150 : decode cX9_check 150 = .ok (.getfield 7, 3) := by decide +kernel
theorem dX9_check_153 : decode cX9_check 153 = .ok (.invokevirtual 337, 3) := by decide +kernel
theorem dX9_check_156 : decode cX9_check 156 = .ok (.iconst 0, 1) := by decide +kernel
theorem dX9_check_157 : decode cX9_check 157 = .ok (.istore 4, 2) := by decide +kernel
theorem dX9_check_159 : decode cX9_check 159 = .ok (.iload 4, 2) := by decide +kernel
theorem dX9_check_161 : decode cX9_check 161 = .ok (.iload_n 2, 1) := by decide +kernel
theorem dX9_check_162 : decode cX9_check 162 = .ok (.if_icmp .ge 32, 3) := by decide +kernel
theorem dX9_check_165 : decode cX9_check 165 = .ok (.iload 4, 2) := by decide +kernel
theorem dX9_check_167 : decode cX9_check 167 = .ok (.iload_n 3, 1) := by decide +kernel
theorem dX9_check_168 : decode cX9_check 168 = .ok (.if_icmp .ge 26, 3) := by decide +kernel
theorem dX9_check_171 : decode cX9_check 171 = .ok (.aload_n 0, 1) := by decide +kernel
theorem dX9_check_172 : decode cX9_check 172 = .ok (.getfield 58, 3) := by decide +kernel
theorem dX9_check_175 : decode cX9_check 175 = .ok (.iload 4, 2) := by decide +kernel
theorem dX9_check_177 : decode cX9_check 177 = .ok (.iaload, 1) := by decide +kernel
theorem dX9_check_178 : decode cX9_check 178 = .ok (.aload_n 0, 1) := by decide +kernel
theorem dX9_check_179 : decode cX9_check 179 = .ok (.getfield 61, 3) := by decide +kernel
theorem dX9_check_182 : decode cX9_check 182 = .ok (.iload 4, 2) := by decide +kernel
theorem dX9_check_184 : decode cX9_check 184 = .ok (.iaload, 1) := by decide +kernel
theorem dX9_check_185 : decode cX9_check 185 = .ok (.if_icmp .ne 9, 3) := by decide +kernel
theorem dX9_check_188 : decode cX9_check 188 = .ok (.iinc 4 1, 3) := by decide +kernel
theorem dX9_check_191 : decode cX9_check 191 = .ok (.goto (-32), 3) := by decide +kernel
theorem dX9_check_194 : decode cX9_check 194 = .ok (.iload 4, 2) := by decide +kernel
theorem dX9_check_196 : decode cX9_check 196 = .ok (.iload_n 2, 1) := by decide +kernel
theorem dX9_check_197 : decode cX9_check 197 = .ok (.if_icmp .ne 13, 3) := by decide +kernel
theorem dX9_check_200 : decode cX9_check 200 = .ok (.iload 4, 2) := by decide +kernel
theorem dX9_check_202 : decode cX9_check 202 = .ok (.iload_n 3, 1) := by decide +kernel
theorem dX9_check_203 : decode cX9_check 203 = .ok (.if_icmp .ne 7, 3) := by decide +kernel
theorem dX9_check_206 : decode cX9_check 206 = .ok (.iconst 0, 1) := by decide +kernel
theorem dX9_check_207 : decode cX9_check 207 = .ok (.goto 7, 3) := by decide +kernel
theorem dX9_check_210 : decode cX9_check 210 = .ok (.iconst 1, 1) := by decide +kernel
theorem dX9_check_211 : decode cX9_check 211 = .ok (.iload 4, 2) := by decide +kernel
theorem dX9_check_213 : decode cX9_check 213 = .ok (.iadd, 1) := by decide +kernel
theorem dX9_check_214 : decode cX9_check 214 = .ok (.ireturn, 1) := by decide +kernel
theorem dX9_keep_0 : decode cX9_keep 0 = .ok (.aload_n 0, 1) := by decide +kernel
theorem dX9_keep_1 : decode cX9_keep 1 = .ok (.iconst 1, 1) := by decide +kernel
theorem dX9_keep_2 : decode cX9_keep 2 = .ok (.putfield 334, 3) := by decide +kernel
theorem dX9_keep_5 : decode cX9_keep 5 = .ok (.aload_n 0, 1) := by decide +kernel
theorem dX9_keep_6 : decode cX9_keep 6 = .ok (.aload_n 0, 1) := by decide +kernel
theorem dX9_keep_7 : decode cX9_keep 7 = .ok (.getfield 7, 3) := by decide +kernel
theorem dX9_keep_10 : decode cX9_keep 10 = .ok (.aload_n 0, 1) := by decide +kernel
theorem dX9_keep_11 : decode cX9_keep 11 = .ok (.getfield 13, 3) := by decide +kernel
theorem dX9_keep_14 : decode cX9_keep 14 = .ok (.invokevirtual 337, 3) := by decide +kernel
theorem dX9_keep_17 : decode cX9_keep 17 = .ok (.aload_n 0, 1) := by decide +kernel
theorem dX9_keep_18 : decode cX9_keep 18 = .ok (.getfield 7, 3) := by decide +kernel
theorem dX9_keep_21 : decode cX9_keep 21 = .ok (.iconst 0, 1) := by decide +kernel
theorem dX9_keep_22 : decode cX9_keep 22 = .ok (.iaload, 1) := by decide +kernel
theorem dX9_keep_23 : decode cX9_keep 23 = .ok (.ireturn, 1) := by decide +kernel
theorem dX9_back_0 : decode cX9_back 0 = .ok (.aload_n 0, 1) := by decide +kernel
theorem dX9_back_1 : decode cX9_back 1 = .ok (.getfield 334, 3) := by decide +kernel
theorem dX9_back_4 : decode cX9_back 4 = .ok (.ifCond .ne 7, 3) := by decide +kernel
theorem dX9_back_7 : decode cX9_back 7 = .ok (.ldc_w 328, 3) := by decide +kernel
theorem dX9_back_10 : decode cX9_back 10 = .ok (.ireturn, 1) := by decide +kernel
theorem dX9_back_11 : decode cX9_back 11 = .ok (.aload_n 0, 1) := by decide +kernel
theorem dX9_back_12 : decode cX9_back 12 = .ok (.aload_n 0, 1) := by decide +kernel
theorem dX9_back_13 : decode cX9_back 13 = .ok (.getfield 13, 3) := by decide +kernel
theorem dX9_back_16 : decode cX9_back 16 = .ok (.aload_n 0, 1) := by decide +kernel
theorem dX9_back_17 : decode cX9_back 17 = .ok (.getfield 7, 3) := by decide +kernel
theorem dX9_back_20 : decode cX9_back 20 = .ok (.invokevirtual 337, 3) := by decide +kernel
theorem dX9_back_23 : decode cX9_back 23 = .ok (.aload_n 0, 1) := by decide +kernel
theorem dX9_back_24 : decode cX9_back 24 = .ok (.getfield 7, 3) := by decide +kernel
theorem dX9_back_27 : decode cX9_back 27 = .ok (.iconst 0, 1) := by decide +kernel
theorem dX9_back_28 : decode cX9_back 28 = .ok (.iaload, 1) := by decide +kernel
theorem dX9_back_29 : decode cX9_back 29 = .ok (.ireturn, 1) := by decide +kernel
theorem dX9_awake_0 : decode cX9_awake 0 = .ok (.iconst 0, 1) := by decide +kernel
theorem dX9_awake_1 : decode cX9_awake 1 = .ok (.istore_n 1, 1) := by decide +kernel
theorem dX9_awake_2 : decode cX9_awake 2 = .ok (.iconst 0, 1) := by decide +kernel
theorem dX9_awake_3 : decode cX9_awake 3 = .ok (.istore_n 2, 1) := by decide +kernel
theorem dX9_awake_4 : decode cX9_awake 4 = .ok (.iload_n 2, 1) := by decide +kernel
theorem dX9_awake_5 : decode cX9_awake 5 = .ok (.aload_n 0, 1) := by decide +kernel
theorem dX9_awake_6 : decode cX9_awake 6 = .ok (.getfield 7, 3) := by decide +kernel
theorem dX9_awake_9 : decode cX9_awake 9 = .ok (.iconst 1, 1) := by decide +kernel
theorem dX9_awake_10 : decode cX9_awake 10 = .ok (.iaload, 1) := by decide +kernel
theorem dX9_awake_11 : decode cX9_awake 11 = .ok (.if_icmp .ge 18, 3) := by decide +kernel
theorem dX9_awake_14 : decode cX9_awake 14 = .ok (.iload_n 1, 1) := by decide +kernel
theorem dX9_awake_15 : decode cX9_awake 15 = .ok (.aload_n 0, 1) := by decide +kernel
theorem dX9_awake_16 : decode cX9_awake 16 = .ok (.iload_n 2, 1) := by decide +kernel
theorem dX9_awake_17 : decode cX9_awake 17 = .ok (.iconst 4, 1) := by decide +kernel
theorem dX9_awake_18 : decode cX9_awake 18 = .ok (.invokevirtual 91, 3) := by decide +kernel
theorem dX9_awake_21 : decode cX9_awake 21 = .ok (.iadd, 1) := by decide +kernel
theorem dX9_awake_22 : decode cX9_awake 22 = .ok (.istore_n 1, 1) := by decide +kernel
theorem dX9_awake_23 : decode cX9_awake 23 = .ok (.iinc 2 1, 3) := by decide +kernel
theorem dX9_awake_26 : decode cX9_awake 26 = .ok (.goto (-22), 3) := by decide +kernel
theorem dX9_awake_29 : decode cX9_awake 29 = .ok (.iload_n 1, 1) := by decide +kernel
theorem dX9_awake_30 : decode cX9_awake 30 = .ok (.ireturn, 1) := by decide +kernel
theorem dX9_count_0 : decode cX9_count 0 = .ok (.iload_n 1, 1) := by decide +kernel
theorem dX9_count_1 : decode cX9_count 1 = .ok (.tableswitch 141 0 11 #[63, 70, 77, 82, 89, 96, 103, 111, 116, 123, 128, 133], 63) := by decide +kernel
theorem dX9_count_64 : decode cX9_count 64 = .ok (.aload_n 0, 1) := by decide +kernel
theorem dX9_count_65 : decode cX9_count 65 = .ok (.getfield 7, 3) := by decide +kernel
theorem dX9_count_68 : decode cX9_count 68 = .ok (.iconst 0, 1) := by decide +kernel
theorem dX9_count_69 : decode cX9_count 69 = .ok (.iaload, 1) := by decide +kernel
theorem dX9_count_70 : decode cX9_count 70 = .ok (.ireturn, 1) := by decide +kernel
theorem dX9_count_71 : decode cX9_count 71 = .ok (.aload_n 0, 1) := by decide +kernel
theorem dX9_count_72 : decode cX9_count 72 = .ok (.getfield 7, 3) := by decide +kernel
theorem dX9_count_75 : decode cX9_count 75 = .ok (.iconst 1, 1) := by decide +kernel
theorem dX9_count_76 : decode cX9_count 76 = .ok (.iaload, 1) := by decide +kernel
theorem dX9_count_77 : decode cX9_count 77 = .ok (.ireturn, 1) := by decide +kernel
theorem dX9_count_78 : decode cX9_count 78 = .ok (.aload_n 0, 1) := by decide +kernel
theorem dX9_count_79 : decode cX9_count 79 = .ok (.invokevirtual 341, 3) := by decide +kernel
theorem dX9_count_82 : decode cX9_count 82 = .ok (.ireturn, 1) := by decide +kernel
theorem dX9_count_83 : decode cX9_count 83 = .ok (.aload_n 0, 1) := by decide +kernel
theorem dX9_count_84 : decode cX9_count 84 = .ok (.getfield 7, 3) := by decide +kernel
theorem dX9_count_87 : decode cX9_count 87 = .ok (.iconst 3, 1) := by decide +kernel
theorem dX9_count_88 : decode cX9_count 88 = .ok (.iaload, 1) := by decide +kernel
theorem dX9_count_89 : decode cX9_count 89 = .ok (.ireturn, 1) := by decide +kernel
theorem dX9_count_90 : decode cX9_count 90 = .ok (.aload_n 0, 1) := by decide +kernel
theorem dX9_count_91 : decode cX9_count 91 = .ok (.getfield 7, 3) := by decide +kernel
theorem dX9_count_94 : decode cX9_count 94 = .ok (.iconst 4, 1) := by decide +kernel
theorem dX9_count_95 : decode cX9_count 95 = .ok (.iaload, 1) := by decide +kernel
theorem dX9_count_96 : decode cX9_count 96 = .ok (.ireturn, 1) := by decide +kernel
theorem dX9_count_97 : decode cX9_count 97 = .ok (.aload_n 0, 1) := by decide +kernel
theorem dX9_count_98 : decode cX9_count 98 = .ok (.getfield 7, 3) := by decide +kernel
theorem dX9_count_101 : decode cX9_count 101 = .ok (.iconst 5, 1) := by decide +kernel
theorem dX9_count_102 : decode cX9_count 102 = .ok (.iaload, 1) := by decide +kernel
theorem dX9_count_103 : decode cX9_count 103 = .ok (.ireturn, 1) := by decide +kernel
theorem dX9_count_104 : decode cX9_count 104 = .ok (.aload_n 0, 1) := by decide +kernel
theorem dX9_count_105 : decode cX9_count 105 = .ok (.getfield 7, 3) := by decide +kernel
theorem dX9_count_108 : decode cX9_count 108 = .ok (.bipush 6, 2) := by decide +kernel
theorem dX9_count_110 : decode cX9_count 110 = .ok (.iaload, 1) := by decide +kernel
theorem dX9_count_111 : decode cX9_count 111 = .ok (.ireturn, 1) := by decide +kernel
theorem dX9_count_112 : decode cX9_count 112 = .ok (.aload_n 0, 1) := by decide +kernel
theorem dX9_count_113 : decode cX9_count 113 = .ok (.invokevirtual 191, 3) := by decide +kernel
theorem dX9_count_116 : decode cX9_count 116 = .ok (.ireturn, 1) := by decide +kernel
theorem dX9_count_117 : decode cX9_count 117 = .ok (.aload_n 0, 1) := by decide +kernel
theorem dX9_count_118 : decode cX9_count 118 = .ok (.getfield 7, 3) := by decide +kernel
theorem dX9_count_121 : decode cX9_count 121 = .ok (.iconst 2, 1) := by decide +kernel
theorem dX9_count_122 : decode cX9_count 122 = .ok (.iaload, 1) := by decide +kernel
theorem dX9_count_123 : decode cX9_count 123 = .ok (.ireturn, 1) := by decide +kernel
theorem dX9_count_124 : decode cX9_count 124 = .ok (.aload_n 0, 1) := by decide +kernel
theorem dX9_count_125 : decode cX9_count 125 = .ok (.getfield 329, 3) := by decide +kernel
theorem dX9_count_128 : decode cX9_count 128 = .ok (.ireturn, 1) := by decide +kernel
theorem dX9_count_129 : decode cX9_count 129 = .ok (.aload_n 0, 1) := by decide +kernel
theorem dX9_count_130 : decode cX9_count 130 = .ok (.getfield 209, 3) := by decide +kernel
theorem dX9_count_133 : decode cX9_count 133 = .ok (.ireturn, 1) := by decide +kernel
theorem dX9_count_134 : decode cX9_count 134 = .ok (.aload_n 0, 1) := by decide +kernel
theorem dX9_count_135 : decode cX9_count 135 = .ok (.getfield 7, 3) := by decide +kernel
theorem dX9_count_138 : decode cX9_count 138 = .ok (.bipush 10, 2) := by decide +kernel
theorem dX9_count_140 : decode cX9_count 140 = .ok (.iaload, 1) := by decide +kernel
theorem dX9_count_141 : decode cX9_count 141 = .ok (.ireturn, 1) := by decide +kernel
theorem dX9_count_142 : decode cX9_count 142 = .ok (.ldc 72, 2) := by decide +kernel
theorem dX9_count_144 : decode cX9_count 144 = .ok (.ireturn, 1) := by decide +kernel
