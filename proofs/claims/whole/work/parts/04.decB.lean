theorem dX8_init_0 : decode cX8_init 0 = .ok (.aload_n 0, 1) := by decide +kernel
theorem dX8_init_1 : decode cX8_init 1 = .ok (.invokespecial 1, 3) := by decide +kernel
theorem dX8_init_4 : decode cX8_init 4 = .ok (.aload_n 0, 1) := by decide +kernel
theorem dX8_init_5 : decode cX8_init 5 = .ok (.new 7, 3) := by decide +kernel
theorem dX8_init_8 : decode cX8_init 8 = .ok (.dup, 1) := by decide +kernel
theorem dX8_init_9 : decode cX8_init 9 = .ok (.invokespecial 9, 3) := by decide +kernel
theorem dX8_init_12 : decode cX8_init 12 = .ok (.putfield 10, 3) := by decide +kernel
theorem dX8_init_15 : decode cX8_init 15 = .ok (.aload_n 0, 1) := by decide +kernel
theorem dX8_init_16 : decode cX8_init 16 = .ok (.new 16, 3) := by decide +kernel
theorem dX8_init_19 : decode cX8_init 19 = .ok (.dup, 1) := by decide +kernel
theorem dX8_init_20 : decode cX8_init 20 = .ok (.invokespecial 18, 3) := by decide +kernel
theorem dX8_init_23 : decode cX8_init 23 = .ok (.putfield 19, 3) := by decide +kernel
theorem dX8_init_26 : decode cX8_init 26 = .ok (.aload_n 0, 1) := by decide +kernel
theorem dX8_init_27 : decode cX8_init 27 = .ok (.iconst 4, 1) := by decide +kernel
theorem dX8_init_28 : decode cX8_init 28 = .ok (.anewarray 23, 3) := by decide +kernel
theorem dX8_init_31 : decode cX8_init 31 = .ok (.putfield 25, 3) := by decide +kernel
theorem dX8_init_34 : decode cX8_init 34 = .ok (.aload_n 0, 1) := by decide +kernel
theorem dX8_init_35 : decode cX8_init 35 = .ok (.iconst 5, 1) := by decide +kernel
theorem dX8_init_36 : decode cX8_init 36 = .ok (.anewarray 29, 3) := by decide +kernel
theorem dX8_init_39 : decode cX8_init 39 = .ok (.putfield 31, 3) := by decide +kernel
theorem dX8_init_42 : decode cX8_init 42 = .ok (.aload_n 0, 1) := by decide +kernel
theorem dX8_init_43 : decode cX8_init 43 = .ok (.bipush 60, 2) := by decide +kernel
theorem dX8_init_45 : decode cX8_init 45 = .ok (.newarray .int, 2) := by decide +kernel
theorem dX8_init_47 : decode cX8_init 47 = .ok (.putfield 35, 3) := by decide +kernel
theorem dX8_init_50 : decode cX8_init 50 = .ok (.aload_n 0, 1) := by decide +kernel
theorem dX8_init_51 : decode cX8_init 51 = .ok (.iconst 0, 1) := by decide +kernel
theorem dX8_init_52 : decode cX8_init 52 = .ok (.putfield 39, 3) := by decide +kernel
theorem dX8_init_55 : decode cX8_init 55 = .ok (.aload_n 0, 1) := by decide +kernel
theorem dX8_init_56 : decode cX8_init 56 = .ok (.iconst 0, 1) := by decide +kernel
theorem dX8_init_57 : decode cX8_init 57 = .ok (.putfield 43, 3) := by decide +kernel
theorem dX8_init_60 : decode cX8_init 60 = .ok (.invokestatic 47, 3) := by decide +kernel
theorem dX8_init_63 : decode cX8_init 63 = .ok (.astore_n 1, 1) := by decide +kernel
theorem dX8_init_64 : decode cX8_init 64 = .ok (.aload_n 0, 1) := by decide +kernel
theorem dX8_init_65 : decode cX8_init 65 = .ok (.aload_n 1, 1) := by decide +kernel
theorem dX8_init_66 : decode cX8_init 66 = .ok (.putfield 51, 3) := by decide +kernel
theorem dX8_init_69 : decode cX8_init 69 = .ok (.aload_n 0, 1) := by decide +kernel
theorem dX8_init_70 : decode cX8_init 70 = .ok (.new 55, 3) := by decide +kernel
theorem dX8_init_73 : decode cX8_init 73 = .ok (.dup, 1) := by decide +kernel
theorem dX8_init_74 : decode cX8_init 74 = .ok (.aload_n 1, 1) := by decide +kernel
theorem dX8_init_75 : decode cX8_init 75 = .ok (.invokespecial 57, 3) := by decide +kernel
theorem dX8_init_78 : decode cX8_init 78 = .ok (.putfield 60, 3) := by decide +kernel
theorem dX8_init_81 : decode cX8_init 81 = .ok (.aload_n 0, 1) := by decide +kernel
theorem dX8_init_82 : decode cX8_init 82 = .ok (.new 55, 3) := by decide +kernel
theorem dX8_init_85 : decode cX8_init 85 = .ok (.dup, 1) := by decide +kernel
theorem dX8_init_86 : decode cX8_init 86 = .ok (.aload_n 1, 1) := by decide +kernel
theorem dX8_init_87 : decode cX8_init 87 = .ok (.invokespecial 57, 3) := by decide +kernel
theorem dX8_init_90 : decode cX8_init 90 = .ok (.putfield 64, 3) := by decide +kernel
theorem dX8_init_93 : decode cX8_init 93 = .ok (.aload_n 0, 1) := by decide +kernel
theorem dX8_init_94 : decode cX8_init 94 = .ok (.new 55, 3) := by decide +kernel
theorem dX8_init_97 : decode cX8_init 97 = .ok (.dup, 1) := by decide +kernel
theorem dX8_init_98 : decode cX8_init 98 = .ok (.aload_n 1, 1) := by decide +kernel
theorem dX8_init_99 : decode cX8_init 99 = .ok (.invokespecial 57, 3) := by decide +kernel
theorem dX8_init_102 : decode cX8_init 102 = .ok (.putfield 67, 3) := by decide +kernel
theorem dX8_init_105 : decode cX8_init 105 = .ok (.iconst 0, 1) := by decide +kernel
theorem dX8_init_106 : decode cX8_init 106 = .ok (.istore_n 2, 1) := by decide +kernel
theorem dX8_init_107 : decode cX8_init 107 = .ok (.iload_n 2, 1) := by decide +kernel
theorem dX8_init_108 : decode cX8_init 108 = .ok (.aload_n 0, 1) := by decide +kernel
theorem dX8_init_109 : decode cX8_init 109 = .ok (.getfield 25, 3) := by decide +kernel
theorem dX8_init_112 : decode cX8_init 112 = .ok (.arraylength, 1) := by decide +kernel
theorem dX8_init_113 : decode cX8_init 113 = .ok (.if_icmp .ge 22, 3) := by decide +kernel
theorem dX8_init_116 : decode cX8_init 116 = .ok (.aload_n 0, 1) := by decide +kernel
theorem dX8_init_117 : decode cX8_init 117 = .ok (.getfield 25, 3) := by decide +kernel
theorem dX8_init_120 : decode cX8_init 120 = .ok (.iload_n 2, 1) := by decide +kernel
theorem dX8_init_121 : decode cX8_init 121 = .ok (.new 23, 3) := by decide +kernel
theorem dX8_init_124 : decode cX8_init 124 = .ok (.dup, 1) := by decide +kernel
theorem dX8_init_125 : decode cX8_init 125 = .ok (.invokespecial 70, 3) := by decide +kernel
theorem dX8_init_128 : decode cX8_init 128 = .ok (.aastore, 1) := by decide +kernel
theorem dX8_init_129 : decode cX8_init 129 = .ok (.iinc 2 1, 3) := by decide +kernel
theorem dX8_init_132 : decode cX8_init 132 = .ok (.goto (-25), 3) := by decide +kernel
theorem dX8_init_135 : decode cX8_init 135 = .ok (.iconst 0, 1) := by decide +kernel
theorem dX8_init_136 : decode cX8_init 136 = .ok (.istore_n 2, 1) := by decide +kernel
theorem dX8_init_137 : decode cX8_init 137 = .ok (.iload_n 2, 1) := by decide +kernel
theorem dX8_init_138 : decode cX8_init 138 = .ok (.aload_n 0, 1) := by decide +kernel
theorem dX8_init_139 : decode cX8_init 139 = .ok (.getfield 31, 3) := by decide +kernel
theorem dX8_init_142 : decode cX8_init 142 = .ok (.arraylength, 1) := by decide +kernel
theorem dX8_init_143 : decode cX8_init 143 = .ok (.if_icmp .ge 22, 3) := by decide +kernel
theorem dX8_init_146 : decode cX8_init 146 = .ok (.aload_n 0, 1) := by decide +kernel
theorem dX8_init_147 : decode cX8_init 147 = .ok (.getfield 31, 3) := by decide +kernel
theorem dX8_init_150 : decode cX8_init 150 = .ok (.iload_n 2, 1) := by decide +kernel
theorem dX8_init_151 : decode cX8_init 151 = .ok (.new 29, 3) := by decide +kernel
theorem dX8_init_154 : decode cX8_init 154 = .ok (.dup, 1) := by decide +kernel
theorem dX8_init_155 : decode cX8_init 155 = .ok (.invokespecial 71, 3) := by decide +kernel
theorem dX8_init_158 : decode cX8_init 158 = .ok (.aastore, 1) := by decide +kernel
theorem dX8_init_159 : decode cX8_init 159 = .ok (.iinc 2 1, 3) := by decide +kernel
theorem dX8_init_162 : decode cX8_init 162 = .ok (.goto (-25), 3) := by decide +kernel
theorem dX8_init_165 : decode cX8_init 165 = .ok (.return_, 1) := by decide +kernel
theorem dX8_emptyLaws_0 : decode cX8_emptyLaws 0 = .ok (.bipush 96, 2) := by decide +kernel
theorem dX8_emptyLaws_2 : decode cX8_emptyLaws 2 = .ok (.newarray .int, 2) := by decide +kernel
theorem dX8_emptyLaws_4 : decode cX8_emptyLaws 4 = .ok (.astore_n 0, 1) := by decide +kernel
theorem dX8_emptyLaws_5 : decode cX8_emptyLaws 5 = .ok (.bipush 15, 2) := by decide +kernel
theorem dX8_emptyLaws_7 : decode cX8_emptyLaws 7 = .ok (.anewarray 72, 3) := by decide +kernel
theorem dX8_emptyLaws_10 : decode cX8_emptyLaws 10 = .ok (.astore_n 1, 1) := by decide +kernel
theorem dX8_emptyLaws_11 : decode cX8_emptyLaws 11 = .ok (.iconst 0, 1) := by decide +kernel
theorem dX8_emptyLaws_12 : decode cX8_emptyLaws 12 = .ok (.istore_n 2, 1) := by decide +kernel
theorem dX8_emptyLaws_13 : decode cX8_emptyLaws 13 = .ok (.iload_n 2, 1) := by decide +kernel
theorem dX8_emptyLaws_14 : decode cX8_emptyLaws 14 = .ok (.aload_n 1, 1) := by decide +kernel
theorem dX8_emptyLaws_15 : decode cX8_emptyLaws 15 = .ok (.arraylength, 1) := by decide +kernel
theorem dX8_emptyLaws_16 : decode cX8_emptyLaws 16 = .ok (.if_icmp .ge 20, 3) := by decide +kernel
theorem dX8_emptyLaws_19 : decode cX8_emptyLaws 19 = .ok (.aload_n 1, 1) := by decide +kernel
theorem dX8_emptyLaws_20 : decode cX8_emptyLaws 20 = .ok (.iload_n 2, 1) := by decide +kernel
theorem dX8_emptyLaws_21 : decode cX8_emptyLaws 21 = .ok (.new 72, 3) := by decide +kernel
theorem dX8_emptyLaws_24 : decode cX8_emptyLaws 24 = .ok (.dup, 1) := by decide +kernel
theorem dX8_emptyLaws_25 : decode cX8_emptyLaws 25 = .ok (.aload_n 0, 1) := by decide +kernel
theorem dX8_emptyLaws_26 : decode cX8_emptyLaws 26 = .ok (.invokespecial 74, 3) := by decide +kernel
theorem dX8_emptyLaws_29 : decode cX8_emptyLaws 29 = .ok (.aastore, 1) := by decide +kernel
theorem dX8_emptyLaws_30 : decode cX8_emptyLaws 30 = .ok (.iinc 2 1, 3) := by decide +kernel
theorem dX8_emptyLaws_33 : decode cX8_emptyLaws 33 = .ok (.goto (-20), 3) := by decide +kernel
theorem dX8_emptyLaws_36 : decode cX8_emptyLaws 36 = .ok (.aload_n 1, 1) := by decide +kernel
theorem dX8_emptyLaws_37 : decode cX8_emptyLaws 37 = .ok (.areturn, 1) := by decide +kernel
theorem dX8_wagon_0 : decode cX8_wagon 0 = .ok (.iload_n 1, 1) := by decide +kernel
theorem dX8_wagon_1 : decode cX8_wagon 1 = .ok (.iconst 0, 1) := by decide +kernel
theorem dX8_wagon_2 : decode cX8_wagon 2 = .ok (.bipush 99, 2) := by decide +kernel
theorem dX8_wagon_4 : decode cX8_wagon 4 = .ok (.invokestatic 77, 3) := by decide +kernel
theorem dX8_wagon_7 : decode cX8_wagon 7 = .ok (.ifCond .ne 6, 3) := by decide +kernel
theorem dX8_wagon_10 : decode cX8_wagon 10 = .ok (.ldc 81, 2) := by decide +kernel
theorem dX8_wagon_12 : decode cX8_wagon 12 = .ok (.ireturn, 1) := by decide +kernel
theorem dX8_wagon_13 : decode cX8_wagon 13 = .ok (.aload_n 0, 1) := by decide +kernel
theorem dX8_wagon_14 : decode cX8_wagon 14 = .ok (.getfield 60, 3) := by decide +kernel
theorem dX8_wagon_17 : decode cX8_wagon 17 = .ok (.getfield 82, 3) := by decide +kernel
theorem dX8_wagon_20 : decode cX8_wagon 20 = .ok (.iload_n 1, 1) := by decide +kernel
theorem dX8_wagon_21 : decode cX8_wagon 21 = .ok (.invokevirtual 86, 3) := by decide +kernel
theorem dX8_wagon_24 : decode cX8_wagon 24 = .ok (.ireturn, 1) := by decide +kernel
theorem dX8_at_0 : decode cX8_at 0 = .ok (.aload_n 0, 1) := by decide +kernel
theorem dX8_at_1 : decode cX8_at 1 = .ok (.getfield 60, 3) := by decide +kernel
theorem dX8_at_4 : decode cX8_at 4 = .ok (.getfield 82, 3) := by decide +kernel
theorem dX8_at_7 : decode cX8_at 7 = .ok (.iload_n 1, 1) := by decide +kernel
theorem dX8_at_8 : decode cX8_at 8 = .ok (.invokevirtual 92, 3) := by decide +kernel
theorem dX8_at_11 : decode cX8_at 11 = .ok (.ifCond .eq 12, 3) := by decide +kernel
theorem dX8_at_14 : decode cX8_at 14 = .ok (.iload_n 2, 1) := by decide +kernel
theorem dX8_at_15 : decode cX8_at 15 = .ok (.iconst 0, 1) := by decide +kernel
theorem dX8_at_16 : decode cX8_at 16 = .ok (.iconst 5, 1) := by decide +kernel
theorem dX8_at_17 : decode cX8_at 17 = .ok (.invokestatic 77, 3) := by decide +kernel
theorem dX8_at_20 : decode cX8_at 20 = .ok (.ifCond .ne 6, 3) := by decide +kernel
theorem dX8_at_23 : decode cX8_at 23 = .ok (.ldc 81, 2) := by decide +kernel
theorem dX8_at_25 : decode cX8_at 25 = .ok (.ireturn, 1) := by decide +kernel
theorem dX8_at_26 : decode cX8_at 26 = .ok (.iload_n 2, 1) := by decide +kernel
theorem dX8_at_27 : decode cX8_at 27 = .ok (.iconst 2, 1) := by decide +kernel
theorem dX8_at_28 : decode cX8_at 28 = .ok (.if_icmp .gt 17, 3) := by decide +kernel
theorem dX8_at_31 : decode cX8_at 31 = .ok (.aload_n 0, 1) := by decide +kernel
theorem dX8_at_32 : decode cX8_at 32 = .ok (.getfield 60, 3) := by decide +kernel
theorem dX8_at_35 : decode cX8_at 35 = .ok (.getfield 82, 3) := by decide +kernel
theorem dX8_at_38 : decode cX8_at 38 = .ok (.iload_n 2, 1) := by decide +kernel
theorem dX8_at_39 : decode cX8_at 39 = .ok (.invokevirtual 96, 3) := by decide +kernel
theorem dX8_at_42 : decode cX8_at 42 = .ok (.iload_n 1, 1) := by decide +kernel
theorem dX8_at_43 : decode cX8_at 43 = .ok (.iaload, 1) := by decide +kernel
theorem dX8_at_44 : decode cX8_at 44 = .ok (.ireturn, 1) := by decide +kernel
theorem dX8_at_45 : decode cX8_at 45 = .ok (.aload_n 0, 1) := by decide +kernel
theorem dX8_at_46 : decode cX8_at 46 = .ok (.getfield 60, 3) := by decide +kernel
theorem dX8_at_49 : decode cX8_at 49 = .ok (.invokevirtual 100, 3) := by decide +kernel
theorem dX8_at_52 : decode cX8_at 52 = .ok (.iload_n 2, 1) := by decide +kernel
theorem dX8_at_53 : decode cX8_at 53 = .ok (.lookupswitch 47 #[(3, 27), (4, 37)], 27) := by decide +kernel
theorem dX8_at_80 : decode cX8_at 80 = .ok (.aload_n 0, 1) := by decide +kernel
theorem dX8_at_81 : decode cX8_at 81 = .ok (.getfield 60, 3) := by decide +kernel
theorem dX8_at_84 : decode cX8_at 84 = .ok (.getfield 103, 3) := by decide +kernel
theorem dX8_at_87 : decode cX8_at 87 = .ok (.iload_n 1, 1) := by decide +kernel
theorem dX8_at_88 : decode cX8_at 88 = .ok (.iaload, 1) := by decide +kernel
theorem dX8_at_89 : decode cX8_at 89 = .ok (.ireturn, 1) := by decide +kernel
theorem dX8_at_90 : decode cX8_at 90 = .ok (.aload_n 0, 1) := by decide +kernel
theorem dX8_at_91 : decode cX8_at 91 = .ok (.getfield 60, 3) := by decide +kernel
theorem dX8_at_94 : decode cX8_at 94 = .ok (.getfield 106, 3) := by decide +kernel
theorem dX8_at_97 : decode cX8_at 97 = .ok (.iload_n 1, 1) := by decide +kernel
theorem dX8_at_98 : decode cX8_at 98 = .ok (.iaload, 1) := by decide +kernel
theorem dX8_at_99 : decode cX8_at 99 = .ok (.ireturn, 1) := by decide +kernel
theorem dX8_at_100 : decode cX8_at 100 = .ok (.aload_n 0, 1) := by decide +kernel
theorem dX8_at_101 : decode cX8_at 101 = .ok (.getfield 60, 3) := by decide +kernel
theorem dX8_at_104 : decode cX8_at 104 = .ok (.iload_n 1, 1) := by decide +kernel
theorem dX8_at_105 : decode cX8_at 105 = .ok (.invokevirtual 109, 3) := by decide +kernel
theorem dX8_at_108 : decode cX8_at 108 = .ok (.ireturn, 1) := by decide +kernel
theorem dX8_lays_0 : decode cX8_lays 0 = .ok (.aload_n 0, 1) := by decide +kernel
theorem dX8_lays_1 : decode cX8_lays 1 = .ok (.getfield 60, 3) := by decide +kernel
theorem dX8_lays_4 : decode cX8_lays 4 = .ok (.getfield 82, 3) := by decide +kernel
theorem dX8_lays_7 : decode cX8_lays 7 = .ok (.iload_n 1, 1) := by decide +kernel
theorem dX8_lays_8 : decode cX8_lays 8 = .ok (.invokevirtual 92, 3) := by decide +kernel
theorem dX8_lays_11 : decode cX8_lays 11 = .ok (.ifCond .eq 32, 3) := by decide +kernel
theorem dX8_lays_14 : decode cX8_lays 14 = .ok (.iload_n 2, 1) := by decide +kernel
theorem dX8_lays_15 : decode cX8_lays 15 = .ok (.iconst 0, 1) := by decide +kernel
theorem dX8_lays_16 : decode cX8_lays 16 = .ok (.iconst 2, 1) := by decide +kernel
theorem dX8_lays_17 : decode cX8_lays 17 = .ok (.invokestatic 77, 3) := by decide +kernel
theorem dX8_lays_20 : decode cX8_lays 20 = .ok (.ifCond .eq 23, 3) := by decide +kernel
theorem dX8_lays_23 : decode cX8_lays 23 = .ok (.iload_n 3, 1) := by decide +kernel
theorem dX8_lays_24 : decode cX8_lays 24 = .ok (.iconst 0, 1) := by decide +kernel
theorem dX8_lays_25 : decode cX8_lays 25 = .ok (.iload_n 2, 1) := by decide +kernel
theorem dX8_lays_26 : decode cX8_lays 26 = .ok (.iconst 1, 1) := by decide +kernel
theorem dX8_lays_27 : decode cX8_lays 27 = .ok (.if_icmp .ne 8, 3) := by decide +kernel
theorem dX8_lays_30 : decode cX8_lays 30 = .ok (.bipush 9, 2) := by decide +kernel
theorem dX8_lays_32 : decode cX8_lays 32 = .ok (.goto 5, 3) := by decide +kernel
theorem dX8_lays_35 : decode cX8_lays 35 = .ok (.bipush 99, 2) := by decide +kernel
theorem dX8_lays_37 : decode cX8_lays 37 = .ok (.invokestatic 77, 3) := by decide +kernel
theorem dX8_lays_40 : decode cX8_lays 40 = .ok (.ifCond .ne 6, 3) := by decide +kernel
theorem dX8_lays_43 : decode cX8_lays 43 = .ok (.ldc 81, 2) := by decide +kernel
theorem dX8_lays_45 : decode cX8_lays 45 = .ok (.ireturn, 1) := by decide +kernel
theorem dX8_lays_46 : decode cX8_lays 46 = .ok (.aload_n 0, 1) := by decide +kernel
theorem dX8_lays_47 : decode cX8_lays 47 = .ok (.getfield 60, 3) := by decide +kernel
theorem dX8_lays_50 : decode cX8_lays 50 = .ok (.getfield 82, 3) := by decide +kernel
theorem dX8_lays_53 : decode cX8_lays 53 = .ok (.iload_n 2, 1) := by decide +kernel
theorem dX8_lays_54 : decode cX8_lays 54 = .ok (.invokevirtual 96, 3) := by decide +kernel
theorem dX8_lays_57 : decode cX8_lays 57 = .ok (.astore 4, 2) := by decide +kernel
theorem dX8_lays_59 : decode cX8_lays 59 = .ok (.aload 4, 2) := by decide +kernel
theorem dX8_lays_61 : decode cX8_lays 61 = .ok (.iload_n 1, 1) := by decide +kernel
theorem dX8_lays_62 : decode cX8_lays 62 = .ok (.iaload, 1) := by decide +kernel
theorem dX8_lays_63 : decode cX8_lays 63 = .ok (.istore 5, 2) := by decide +kernel
theorem dX8_lays_65 : decode cX8_lays 65 = .ok (.aload 4, 2) := by decide +kernel
theorem dX8_lays_67 : decode cX8_lays 67 = .ok (.iload_n 1, 1) := by decide +kernel
theorem dX8_lays_68 : decode cX8_lays 68 = .ok (.iload_n 3, 1) := by decide +kernel
theorem dX8_lays_69 : decode cX8_lays 69 = .ok (.iastore, 1) := by decide +kernel
theorem dX8_lays_70 : decode cX8_lays 70 = .ok (.iload 5, 2) := by decide +kernel
theorem dX8_lays_72 : decode cX8_lays 72 = .ok (.ireturn, 1) := by decide +kernel
theorem dX8_far_0 : decode cX8_far 0 = .ok (.aload_n 0, 1) := by decide +kernel
theorem dX8_far_1 : decode cX8_far 1 = .ok (.getfield 60, 3) := by decide +kernel
theorem dX8_far_4 : decode cX8_far 4 = .ok (.getfield 82, 3) := by decide +kernel
theorem dX8_far_7 : decode cX8_far 7 = .ok (.iload_n 1, 1) := by decide +kernel
theorem dX8_far_8 : decode cX8_far 8 = .ok (.invokevirtual 92, 3) := by decide +kernel
theorem dX8_far_11 : decode cX8_far 11 = .ok (.ifCond .eq 17, 3) := by decide +kernel
theorem dX8_far_14 : decode cX8_far 14 = .ok (.aload_n 0, 1) := by decide +kernel
theorem dX8_far_15 : decode cX8_far 15 = .ok (.getfield 60, 3) := by decide +kernel
theorem dX8_far_18 : decode cX8_far 18 = .ok (.getfield 82, 3) := by decide +kernel
theorem dX8_far_21 : decode cX8_far 21 = .ok (.iload_n 2, 1) := by decide +kernel
theorem dX8_far_22 : decode cX8_far 22 = .ok (.invokevirtual 92, 3) := by decide +kernel
theorem dX8_far_25 : decode cX8_far 25 = .ok (.ifCond .ne 6, 3) := by decide +kernel
theorem dX8_far_28 : decode cX8_far 28 = .ok (.ldc 81, 2) := by decide +kernel
theorem dX8_far_30 : decode cX8_far 30 = .ok (.ireturn, 1) := by decide +kernel
theorem dX8_far_31 : decode cX8_far 31 = .ok (.iload_n 1, 1) := by decide +kernel
theorem dX8_far_32 : decode cX8_far 32 = .ok (.iload_n 2, 1) := by decide +kernel
theorem dX8_far_33 : decode cX8_far 33 = .ok (.isub, 1) := by decide +kernel
theorem dX8_far_34 : decode cX8_far 34 = .ok (.invokestatic 112, 3) := by decide +kernel
theorem dX8_far_37 : decode cX8_far 37 = .ok (.istore_n 3, 1) := by decide +kernel
theorem dX8_far_38 : decode cX8_far 38 = .ok (.iload_n 3, 1) := by decide +kernel
theorem dX8_far_39 : decode cX8_far 39 = .ok (.aload_n 0, 1) := by decide +kernel
theorem dX8_far_40 : decode cX8_far 40 = .ok (.getfield 60, 3) := by decide +kernel
theorem dX8_far_43 : decode cX8_far 43 = .ok (.getfield 82, 3) := by decide +kernel
theorem dX8_far_46 : decode cX8_far 46 = .ok (.getfield 117, 3) := by decide +kernel
theorem dX8_far_49 : decode cX8_far 49 = .ok (.iload_n 3, 1) := by decide +kernel
theorem dX8_far_50 : decode cX8_far 50 = .ok (.isub, 1) := by decide +kernel
theorem dX8_far_51 : decode cX8_far 51 = .ok (.invokestatic 120, 3) := by decide +kernel
theorem dX8_far_54 : decode cX8_far 54 = .ok (.ireturn, 1) := by decide +kernel
theorem dX8_plain_0 : decode cX8_plain 0 = .ok (.iload_n 1, 1) := by decide +kernel
theorem dX8_plain_1 : decode cX8_plain 1 = .ok (.iconst 0, 1) := by decide +kernel
theorem dX8_plain_2 : decode cX8_plain 2 = .ok (.iconst 2, 1) := by decide +kernel
theorem dX8_plain_3 : decode cX8_plain 3 = .ok (.invokestatic 77, 3) := by decide +kernel
theorem dX8_plain_6 : decode cX8_plain 6 = .ok (.ifCond .eq 23, 3) := by decide +kernel
theorem dX8_plain_9 : decode cX8_plain 9 = .ok (.iload_n 2, 1) := by decide +kernel
theorem dX8_plain_10 : decode cX8_plain 10 = .ok (.iconst 0, 1) := by decide +kernel
theorem dX8_plain_11 : decode cX8_plain 11 = .ok (.iload_n 1, 1) := by decide +kernel
theorem dX8_plain_12 : decode cX8_plain 12 = .ok (.ifCond .ne 9, 3) := by decide +kernel
theorem dX8_plain_15 : decode cX8_plain 15 = .ok (.sipush 9999, 3) := by decide +kernel
theorem dX8_plain_18 : decode cX8_plain 18 = .ok (.goto 5, 3) := by decide +kernel
theorem dX8_plain_21 : decode cX8_plain 21 = .ok (.bipush 99, 2) := by decide +kernel
theorem dX8_plain_23 : decode cX8_plain 23 = .ok (.invokestatic 77, 3) := by decide +kernel
theorem dX8_plain_26 : decode cX8_plain 26 = .ok (.ifCond .ne 6, 3) := by decide +kernel
theorem dX8_plain_29 : decode cX8_plain 29 = .ok (.ldc 81, 2) := by decide +kernel
theorem dX8_plain_31 : decode cX8_plain 31 = .ok (.ireturn, 1) := by decide +kernel
theorem dX8_plain_32 : decode cX8_plain 32 = .ok (.iload_n 1, 1) := by decide +kernel
theorem dX8_plain_33 : decode cX8_plain 33 = .ok (.ifCond .ne 22, 3) := by decide +kernel
theorem dX8_plain_36 : decode cX8_plain 36 = .ok (.aload_n 0, 1) := by decide +kernel
theorem dX8_plain_37 : decode cX8_plain 37 = .ok (.getfield 60, 3) := by decide +kernel
theorem dX8_plain_40 : decode cX8_plain 40 = .ok (.getfield 124, 3) := by decide +kernel
theorem dX8_plain_43 : decode cX8_plain 43 = .ok (.istore_n 3, 1) := by decide +kernel
theorem dX8_plain_44 : decode cX8_plain 44 = .ok (.aload_n 0, 1) := by decide +kernel
theorem dX8_plain_45 : decode cX8_plain 45 = .ok (.getfield 60, 3) := by decide +kernel
theorem dX8_plain_48 : decode cX8_plain 48 = .ok (.iload_n 2, 1) := by decide +kernel
theorem dX8_plain_49 : decode cX8_plain 49 = .ok (.putfield 124, 3) := by decide +kernel
theorem dX8_plain_52 : decode cX8_plain 52 = .ok (.goto 43, 3) := by decide +kernel
theorem dX8_plain_55 : decode cX8_plain 55 = .ok (.iload_n 1, 1) := by decide +kernel
theorem dX8_plain_56 : decode cX8_plain 56 = .ok (.iconst 1, 1) := by decide +kernel
theorem dX8_plain_57 : decode cX8_plain 57 = .ok (.if_icmp .ne 22, 3) := by decide +kernel
theorem dX8_plain_60 : decode cX8_plain 60 = .ok (.aload_n 0, 1) := by decide +kernel
theorem dX8_plain_61 : decode cX8_plain 61 = .ok (.getfield 60, 3) := by decide +kernel
theorem dX8_plain_64 : decode cX8_plain 64 = .ok (.getfield 127, 3) := by decide +kernel
theorem dX8_plain_67 : decode cX8_plain 67 = .ok (.istore_n 3, 1) := by decide +kernel
theorem dX8_plain_68 : decode cX8_plain 68 = .ok (.aload_n 0, 1) := by decide +kernel
theorem dX8_plain_69 : decode cX8_plain 69 = .ok (.getfield 60, 3) := by decide +kernel
theorem dX8_plain_72 : decode cX8_plain 72 = .ok (.iload_n 2, 1) := by decide +kernel
theorem dX8_plain_73 : decode cX8_plain 73 = .ok (.putfield 127, 3) := by decide +kernel
theorem dX8_plain_76 : decode cX8_plain 76 = .ok (.goto 19, 3) := by decide +kernel
theorem dX8_plain_79 : decode cX8_plain 79 = .ok (.aload_n 0, 1) := by decide +kernel
theorem dX8_plain_80 : decode cX8_plain 80 = .ok (.getfield 60, 3) := by decide +kernel
theorem dX8_plain_83 : decode cX8_plain 83 = .ok (.getfield 130, 3) := by decide +kernel
theorem dX8_plain_86 : decode cX8_plain 86 = .ok (.istore_n 3, 1) := by decide +kernel
theorem dX8_plain_87 : decode cX8_plain 87 = .ok (.aload_n 0, 1) := by decide +kernel
theorem dX8_plain_88 : decode cX8_plain 88 = .ok (.getfield 60, 3) := by decide +kernel
theorem dX8_plain_91 : decode cX8_plain 91 = .ok (.iload_n 2, 1) := by decide +kernel
theorem dX8_plain_92 : decode cX8_plain 92 = .ok (.putfield 130, 3) := by decide +kernel
theorem dX8_plain_95 : decode cX8_plain 95 = .ok (.iload_n 3, 1) := by decide +kernel
theorem dX8_plain_96 : decode cX8_plain 96 = .ok (.ireturn, 1) := by decide +kernel
theorem dX8_watcher_0 : decode cX8_watcher 0 = .ok (.iload_n 1, 1) := by decide +kernel
theorem dX8_watcher_1 : decode cX8_watcher 1 = .ok (.invokestatic 133, 3) := by decide +kernel
theorem dX8_watcher_4 : decode cX8_watcher 4 = .ok (.ifCond .eq 23, 3) := by decide +kernel
theorem dX8_watcher_7 : decode cX8_watcher 7 = .ok (.iload_n 2, 1) := by decide +kernel
theorem dX8_watcher_8 : decode cX8_watcher 8 = .ok (.iconst 0, 1) := by decide +kernel
theorem dX8_watcher_9 : decode cX8_watcher 9 = .ok (.bipush 11, 2) := by decide +kernel
theorem dX8_watcher_11 : decode cX8_watcher 11 = .ok (.invokestatic 77, 3) := by decide +kernel
theorem dX8_watcher_14 : decode cX8_watcher 14 = .ok (.ifCond .eq 13, 3) := by decide +kernel
theorem dX8_watcher_17 : decode cX8_watcher 17 = .ok (.iload_n 3, 1) := by decide +kernel
theorem dX8_watcher_18 : decode cX8_watcher 18 = .ok (.iconst 1, 1) := by decide +kernel
theorem dX8_watcher_19 : decode cX8_watcher 19 = .ok (.bipush 9, 2) := by decide +kernel
theorem dX8_watcher_21 : decode cX8_watcher 21 = .ok (.invokestatic 77, 3) := by decide +kernel
theorem dX8_watcher_24 : decode cX8_watcher 24 = .ok (.ifCond .ne 6, 3) := by decide +kernel
theorem dX8_watcher_27 : decode cX8_watcher 27 = .ok (.ldc 81, 2) := by decide +kernel
theorem dX8_watcher_29 : decode cX8_watcher 29 = .ok (.ireturn, 1) := by decide +kernel
theorem dX8_watcher_30 : decode cX8_watcher 30 = .ok (.aload_n 0, 1) := by decide +kernel
theorem dX8_watcher_31 : decode cX8_watcher 31 = .ok (.getfield 60, 3) := by decide +kernel
theorem dX8_watcher_34 : decode cX8_watcher 34 = .ok (.iload_n 1, 1) := by decide +kernel
theorem dX8_watcher_35 : decode cX8_watcher 35 = .ok (.iload_n 2, 1) := by decide +kernel
theorem dX8_watcher_36 : decode cX8_watcher 36 = .ok (.iload_n 3, 1) := by decide +kernel
theorem dX8_watcher_37 : decode cX8_watcher 37 = .ok (.invokevirtual 136, 3) := by decide +kernel
theorem dX8_watcher_40 : decode cX8_watcher 40 = .ok (.ireturn, 1) := by decide +kernel
theorem dX8_told_0 : decode cX8_told 0 = .ok (.aload_n 0, 1) := by decide +kernel
theorem dX8_told_1 : decode cX8_told 1 = .ok (.getfield 60, 3) := by decide +kernel
theorem dX8_told_4 : decode cX8_told 4 = .ok (.iload_n 1, 1) := by decide +kernel
theorem dX8_told_5 : decode cX8_told 5 = .ok (.invokevirtual 140, 3) := by decide +kernel
theorem dX8_told_8 : decode cX8_told 8 = .ok (.ifCond .eq 13, 3) := by decide +kernel
theorem dX8_told_11 : decode cX8_told 11 = .ok (.iload_n 2, 1) := by decide +kernel
theorem dX8_told_12 : decode cX8_told 12 = .ok (.iconst 0, 1) := by decide +kernel
theorem dX8_told_13 : decode cX8_told 13 = .ok (.bipush 6, 2) := by decide +kernel
theorem dX8_told_15 : decode cX8_told 15 = .ok (.invokestatic 77, 3) := by decide +kernel
theorem dX8_told_18 : decode cX8_told 18 = .ok (.ifCond .ne 6, 3) := by decide +kernel
theorem dX8_told_21 : decode cX8_told 21 = .ok (.ldc 81, 2) := by decide +kernel
theorem dX8_told_23 : decode cX8_told 23 = .ok (.ireturn, 1) := by decide +kernel
theorem dX8_told_24 : decode cX8_told 24 = .ok (.aload_n 0, 1) := by decide +kernel
theorem dX8_told_25 : decode cX8_told 25 = .ok (.getfield 60, 3) := by decide +kernel
theorem dX8_told_28 : decode cX8_told 28 = .ok (.getfield 143, 3) := by decide +kernel
theorem dX8_told_31 : decode cX8_told 31 = .ok (.iload_n 1, 1) := by decide +kernel
theorem dX8_told_32 : decode cX8_told 32 = .ok (.aaload, 1) := by decide +kernel
theorem dX8_told_33 : decode cX8_told 33 = .ok (.astore_n 3, 1) := by decide +kernel
theorem dX8_told_34 : decode cX8_told 34 = .ok (.iload_n 2, 1) := by decide +kernel
theorem dX8_told_35 : decode cX8_told 35 = .ok (.tableswitch 78 0 5 #[37, 42, 47, 52, 57, 62], 37) := by decide +kernel
theorem dX8_told_72 : decode cX8_told 72 = .ok (.aload_n 3, 1) := by decide +kernel
theorem dX8_told_73 : decode cX8_told 73 = .ok (.getfield 147, 3) := by decide +kernel
theorem dX8_told_76 : decode cX8_told 76 = .ok (.ireturn, 1) := by decide +kernel
theorem dX8_told_77 : decode cX8_told 77 = .ok (.aload_n 3, 1) := by decide +kernel
theorem dX8_told_78 : decode cX8_told 78 = .ok (.getfield 152, 3) := by decide +kernel
theorem dX8_told_81 : decode cX8_told 81 = .ok (.ireturn, 1) := by decide +kernel
theorem dX8_told_82 : decode cX8_told 82 = .ok (.aload_n 3, 1) := by decide +kernel
theorem dX8_told_83 : decode cX8_told 83 = .ok (.getfield 155, 3) := by decide +kernel
theorem dX8_told_86 : decode cX8_told 86 = .ok (.ireturn, 1) := by decide +kernel
theorem dX8_told_87 : decode cX8_told 87 = .ok (.aload_n 3, 1) := by decide +kernel
theorem dX8_told_88 : decode cX8_told 88 = .ok (.getfield 158, 3) := by decide +kernel
theorem dX8_told_91 : decode cX8_told 91 = .ok (.ireturn, 1) := by decide +kernel
theorem dX8_told_92 : decode cX8_told 92 = .ok (.aload_n 3, 1) := by decide +kernel
theorem dX8_told_93 : decode cX8_told 93 = .ok (.getfield 161, 3) := by decide +kernel
theorem dX8_told_96 : decode cX8_told 96 = .ok (.ireturn, 1) := by decide +kernel
theorem dX8_told_97 : decode cX8_told 97 = .ok (.aload_n 0, 1) := by decide +kernel
theorem dX8_told_98 : decode cX8_told 98 = .ok (.getfield 60, 3) := by decide +kernel
theorem dX8_told_101 : decode cX8_told 101 = .ok (.invokevirtual 100, 3) := by decide +kernel
theorem dX8_told_104 : decode cX8_told 104 = .ok (.aload_n 0, 1) := by decide +kernel
theorem dX8_told_105 : decode cX8_told 105 = .ok (.getfield 60, 3) := by decide +kernel
theorem dX8_told_108 : decode cX8_told 108 = .ok (.aload_n 3, 1) := by decide +kernel
theorem dX8_told_109 : decode cX8_told 109 = .ok (.invokevirtual 164, 3) := by decide +kernel
theorem dX8_told_112 : decode cX8_told 112 = .ok (.ireturn, 1) := by decide +kernel
theorem dX8_told_113 : decode cX8_told 113 = .ok (.aload_n 3, 1) := by decide +kernel
theorem dX8_told_114 : decode cX8_told 114 = .ok (.invokevirtual 168, 3) := by decide +kernel
theorem dX8_told_117 : decode cX8_told 117 = .ok (.ireturn, 1) := by decide +kernel
theorem dX8_as_0 : decode cX8_as 0 = .ok (.aload_n 0, 1) := by decide +kernel
theorem dX8_as_1 : decode cX8_as 1 = .ok (.getfield 60, 3) := by decide +kernel
theorem dX8_as_4 : decode cX8_as 4 = .ok (.iload_n 1, 1) := by decide +kernel
theorem dX8_as_5 : decode cX8_as 5 = .ok (.invokevirtual 140, 3) := by decide +kernel
theorem dX8_as_8 : decode cX8_as 8 = .ok (.ifCond .eq 10, 3) := by decide +kernel
theorem dX8_as_11 : decode cX8_as 11 = .ok (.iload_n 2, 1) := by decide +kernel
theorem dX8_as_12 : decode cX8_as 12 = .ok (.invokestatic 133, 3) := by decide +kernel
theorem dX8_as_15 : decode cX8_as 15 = .ok (.ifCond .ne 6, 3) := by decide +kernel
theorem dX8_as_18 : decode cX8_as 18 = .ok (.ldc 81, 2) := by decide +kernel
theorem dX8_as_20 : decode cX8_as 20 = .ok (.ireturn, 1) := by decide +kernel
theorem dX8_as_21 : decode cX8_as 21 = .ok (.aload_n 0, 1) := by decide +kernel
theorem dX8_as_22 : decode cX8_as 22 = .ok (.getfield 60, 3) := by decide +kernel
theorem dX8_as_25 : decode cX8_as 25 = .ok (.getfield 143, 3) := by decide +kernel
theorem dX8_as_28 : decode cX8_as 28 = .ok (.iload_n 1, 1) := by decide +kernel
theorem dX8_as_29 : decode cX8_as 29 = .ok (.aaload, 1) := by decide +kernel
theorem dX8_as_30 : decode cX8_as 30 = .ok (.astore_n 3, 1) := by decide +kernel
theorem dX8_as_31 : decode cX8_as 31 = .ok (.aload_n 3, 1) := by decide +kernel
theorem dX8_as_32 : decode cX8_as 32 = .ok (.iload_n 2, 1) := by decide +kernel
theorem dX8_as_33 : decode cX8_as 33 = .ok (.invokevirtual 172, 3) := by decide +kernel
theorem dX8_as_36 : decode cX8_as 36 = .ok (.ifCond .eq 10, 3) := by decide +kernel
theorem dX8_as_39 : decode cX8_as 39 = .ok (.aload_n 3, 1) := by decide +kernel
theorem dX8_as_40 : decode cX8_as 40 = .ok (.getfield 155, 3) := by decide +kernel
theorem dX8_as_43 : decode cX8_as 43 = .ok (.goto 5, 3) := by decide +kernel
theorem dX8_as_46 : decode cX8_as 46 = .ok (.ldc 175, 2) := by decide +kernel
theorem dX8_as_48 : decode cX8_as 48 = .ok (.ireturn, 1) := by decide +kernel
theorem dX8_turns_0 : decode cX8_turns 0 = .ok (.aload_n 0, 1) := by decide +kernel
theorem dX8_turns_1 : decode cX8_turns 1 = .ok (.getfield 60, 3) := by decide +kernel
theorem dX8_turns_4 : decode cX8_turns 4 = .ok (.iload_n 1, 1) := by decide +kernel
theorem dX8_turns_5 : decode cX8_turns 5 = .ok (.invokevirtual 140, 3) := by decide +kernel
theorem dX8_turns_8 : decode cX8_turns 8 = .ok (.ifCond .eq 10, 3) := by decide +kernel
theorem dX8_turns_11 : decode cX8_turns 11 = .ok (.iload_n 2, 1) := by decide +kernel
theorem dX8_turns_12 : decode cX8_turns 12 = .ok (.invokestatic 133, 3) := by decide +kernel
theorem dX8_turns_15 : decode cX8_turns 15 = .ok (.ifCond .ne 6, 3) := by decide +kernel
theorem dX8_turns_18 : decode cX8_turns 18 = .ok (.ldc 81, 2) := by decide +kernel
theorem dX8_turns_20 : decode cX8_turns 20 = .ok (.ireturn, 1) := by decide +kernel
theorem dX8_turns_21 : decode cX8_turns 21 = .ok (.aload_n 0, 1) := by decide +kernel
theorem dX8_turns_22 : decode cX8_turns 22 = .ok (.getfield 60, 3) := by decide +kernel
theorem dX8_turns_25 : decode cX8_turns 25 = .ok (.getfield 143, 3) := by decide +kernel
theorem dX8_turns_28 : decode cX8_turns 28 = .ok (.iload_n 1, 1) := by decide +kernel
theorem dX8_turns_29 : decode cX8_turns 29 = .ok (.aaload, 1) := by decide +kernel
theorem dX8_turns_30 : decode cX8_turns 30 = .ok (.astore_n 3, 1) := by decide +kernel
theorem dX8_turns_31 : decode cX8_turns 31 = .ok (.aload_n 3, 1) := by decide +kernel
theorem dX8_turns_32 : decode cX8_turns 32 = .ok (.getfield 147, 3) := by decide +kernel
theorem dX8_turns_35 : decode cX8_turns 35 = .ok (.istore 4, 2) := by decide +kernel
theorem dX8_turns_37 : decode cX8_turns 37 = .ok (.aload_n 3, 1) := by decide +kernel
theorem dX8_turns_38 : decode cX8_turns 38 = .ok (.iload_n 2, 1) := by decide +kernel
theorem dX8_turns_39 : decode cX8_turns 39 = .ok (.putfield 147, 3) := by decide +kernel
theorem dX8_turns_42 : decode cX8_turns 42 = .ok (.iload 4, 2) := by decide +kernel
theorem dX8_turns_44 : decode cX8_turns 44 = .ok (.ireturn, 1) := by decide +kernel
theorem dX8_set_0 : decode cX8_set 0 = .ok (.aload_n 0, 1) := by decide +kernel
theorem dX8_set_1 : decode cX8_set 1 = .ok (.getfield 60, 3) := by decide +kernel
theorem dX8_set_4 : decode cX8_set 4 = .ok (.iload_n 1, 1) := by decide +kernel
theorem dX8_set_5 : decode cX8_set 5 = .ok (.invokevirtual 140, 3) := by decide +kernel
theorem dX8_set_8 : decode cX8_set 8 = .ok (.ifCond .eq 11, 3) := by decide +kernel
theorem dX8_set_11 : decode cX8_set 11 = .ok (.iload_n 2, 1) := by decide +kernel
theorem dX8_set_12 : decode cX8_set 12 = .ok (.iload_n 3, 1) := by decide +kernel
theorem dX8_set_13 : decode cX8_set 13 = .ok (.invokestatic 176, 3) := by decide +kernel
theorem dX8_set_16 : decode cX8_set 16 = .ok (.ifCond .ne 6, 3) := by decide +kernel
theorem dX8_set_19 : decode cX8_set 19 = .ok (.ldc 81, 2) := by decide +kernel
theorem dX8_set_21 : decode cX8_set 21 = .ok (.ireturn, 1) := by decide +kernel
theorem dX8_set_22 : decode cX8_set 22 = .ok (.aload_n 0, 1) := by decide +kernel
theorem dX8_set_23 : decode cX8_set 23 = .ok (.getfield 60, 3) := by decide +kernel
theorem dX8_set_26 : decode cX8_set 26 = .ok (.getfield 143, 3) := by decide +kernel
theorem dX8_set_29 : decode cX8_set 29 = .ok (.iload_n 1, 1) := by decide +kernel
theorem dX8_set_30 : decode cX8_set 30 = .ok (.aaload, 1) := by decide +kernel
theorem dX8_set_31 : decode cX8_set 31 = .ok (.astore 4, 2) := by decide +kernel
theorem dX8_set_33 : decode cX8_set 33 = .ok (.iload_n 2, 1) := by decide +kernel
theorem dX8_set_34 : decode cX8_set 34 = .ok (.tableswitch 74 1 3 #[26, 42, 58], 26) := by decide +kernel
theorem dX8_set_60 : decode cX8_set 60 = .ok (.aload 4, 2) := by decide +kernel
theorem dX8_set_62 : decode cX8_set 62 = .ok (.getfield 152, 3) := by decide +kernel
theorem dX8_set_65 : decode cX8_set 65 = .ok (.istore 5, 2) := by decide +kernel
theorem dX8_set_67 : decode cX8_set 67 = .ok (.aload 4, 2) := by decide +kernel
theorem dX8_set_69 : decode cX8_set 69 = .ok (.iload_n 3, 1) := by decide +kernel
theorem dX8_set_70 : decode cX8_set 70 = .ok (.putfield 152, 3) := by decide +kernel
theorem dX8_set_73 : decode cX8_set 73 = .ok (.iload 5, 2) := by decide +kernel
theorem dX8_set_75 : decode cX8_set 75 = .ok (.ireturn, 1) := by decide +kernel
theorem dX8_set_76 : decode cX8_set 76 = .ok (.aload 4, 2) := by decide +kernel
theorem dX8_set_78 : decode cX8_set 78 = .ok (.getfield 155, 3) := by decide +kernel
theorem dX8_set_81 : decode cX8_set 81 = .ok (.istore 5, 2) := by decide +kernel
theorem dX8_set_83 : decode cX8_set 83 = .ok (.aload 4, 2) := by decide +kernel
theorem dX8_set_85 : decode cX8_set 85 = .ok (.iload_n 3, 1) := by decide +kernel
theorem dX8_set_86 : decode cX8_set 86 = .ok (.putfield 155, 3) := by decide +kernel
theorem dX8_set_89 : decode cX8_set 89 = .ok (.iload 5, 2) := by decide +kernel
theorem dX8_set_91 : decode cX8_set 91 = .ok (.ireturn, 1) := by decide +kernel
theorem dX8_set_92 : decode cX8_set 92 = .ok (.aload 4, 2) := by decide +kernel
theorem dX8_set_94 : decode cX8_set 94 = .ok (.getfield 158, 3) := by decide +kernel
theorem dX8_set_97 : decode cX8_set 97 = .ok (.istore 5, 2) := by decide +kernel
theorem dX8_set_99 : decode cX8_set 99 = .ok (.aload 4, 2) := by decide +kernel
theorem dX8_set_101 : decode cX8_set 101 = .ok (.iload_n 3, 1) := by decide +kernel
theorem dX8_set_102 : decode cX8_set 102 = .ok (.putfield 158, 3) := by decide +kernel
theorem dX8_set_105 : decode cX8_set 105 = .ok (.iload 5, 2) := by decide +kernel
theorem dX8_set_107 : decode cX8_set 107 = .ok (.ireturn, 1) := by decide +kernel
theorem dX8_set_108 : decode cX8_set 108 = .ok (.aload 4, 2) := by decide +kernel
theorem dX8_set_110 : decode cX8_set 110 = .ok (.getfield 161, 3) := by decide +kernel
theorem dX8_set_113 : decode cX8_set 113 = .ok (.istore 5, 2) := by decide +kernel
theorem dX8_set_115 : decode cX8_set 115 = .ok (.aload 4, 2) := by decide +kernel
theorem dX8_set_117 : decode cX8_set 117 = .ok (.iload_n 3, 1) := by decide +kernel
theorem dX8_set_118 : decode cX8_set 118 = .ok (.putfield 161, 3) := by decide +kernel
theorem dX8_set_121 : decode cX8_set 121 = .ok (.iload 5, 2) := by decide +kernel
theorem dX8_set_123 : decode cX8_set 123 = .ok (.ireturn, 1) := by decide +kernel
theorem dX8_deal_0 : decode cX8_deal 0 = .ok (.iload_n 1, 1) := by decide +kernel
theorem dX8_deal_1 : decode cX8_deal 1 = .ok (.iconst 1, 1) := by decide +kernel
theorem dX8_deal_2 : decode cX8_deal 2 = .ok (.bipush 8, 2) := by decide +kernel
theorem dX8_deal_4 : decode cX8_deal 4 = .ok (.invokestatic 77, 3) := by decide +kernel
theorem dX8_deal_7 : decode cX8_deal 7 = .ok (.ifCond .ne 6, 3) := by decide +kernel
theorem dX8_deal_10 : decode cX8_deal 10 = .ok (.ldc 81, 2) := by decide +kernel
theorem dX8_deal_12 : decode cX8_deal 12 = .ok (.ireturn, 1) := by decide +kernel
theorem dX8_deal_13 : decode cX8_deal 13 = .ok (.iload_n 1, 1) := by decide +kernel
theorem dX8_deal_14 : decode cX8_deal 14 = .ok (.bipush 8, 2) := by decide +kernel
theorem dX8_deal_16 : decode cX8_deal 16 = .ok (.aload_n 0, 1) := by decide +kernel
theorem dX8_deal_17 : decode cX8_deal 17 = .ok (.getfield 60, 3) := by decide +kernel
theorem dX8_deal_20 : decode cX8_deal 20 = .ok (.getfield 180, 3) := by decide +kernel
theorem dX8_deal_23 : decode cX8_deal 23 = .ok (.isub, 1) := by decide +kernel
theorem dX8_deal_24 : decode cX8_deal 24 = .ok (.invokestatic 120, 3) := by decide +kernel
theorem dX8_deal_27 : decode cX8_deal 27 = .ok (.istore_n 2, 1) := by decide +kernel
theorem dX8_deal_28 : decode cX8_deal 28 = .ok (.iconst 0, 1) := by decide +kernel
theorem dX8_deal_29 : decode cX8_deal 29 = .ok (.istore_n 3, 1) := by decide +kernel
theorem dX8_deal_30 : decode cX8_deal 30 = .ok (.iload_n 3, 1) := by decide +kernel
theorem dX8_deal_31 : decode cX8_deal 31 = .ok (.iload_n 2, 1) := by decide +kernel
theorem dX8_deal_32 : decode cX8_deal 32 = .ok (.if_icmp .ge 63, 3) := by decide +kernel
theorem dX8_deal_35 : decode cX8_deal 35 = .ok (.aload_n 0, 1) := by decide +kernel
theorem dX8_deal_36 : decode cX8_deal 36 = .ok (.getfield 60, 3) := by decide +kernel
theorem dX8_deal_39 : decode cX8_deal 39 = .ok (.invokevirtual 183, 3) := by decide +kernel
theorem dX8_deal_42 : decode cX8_deal 42 = .ok (.getstatic 186, 3) := by decide +kernel
theorem dX8_deal_45 : decode cX8_deal 45 = .ok (.arraylength, 1) := by decide +kernel
theorem dX8_deal_46 : decode cX8_deal 46 = .ok (.irem, 1) := by decide +kernel
theorem dX8_deal_47 : decode cX8_deal 47 = .ok (.istore 4, 2) := by decide +kernel
theorem dX8_deal_49 : decode cX8_deal 49 = .ok (.aload_n 0, 1) := by decide +kernel
theorem dX8_deal_50 : decode cX8_deal 50 = .ok (.getfield 60, 3) := by decide +kernel
theorem dX8_deal_53 : decode cX8_deal 53 = .ok (.invokevirtual 183, 3) := by decide +kernel
theorem dX8_deal_56 : decode cX8_deal 56 = .ok (.bipush 12, 2) := by decide +kernel
theorem dX8_deal_58 : decode cX8_deal 58 = .ok (.irem, 1) := by decide +kernel
theorem dX8_deal_59 : decode cX8_deal 59 = .ok (.istore 5, 2) := by decide +kernel
theorem dX8_deal_61 : decode cX8_deal 61 = .ok (.iconst 1, 1) := by decide +kernel
theorem dX8_deal_62 : decode cX8_deal 62 = .ok (.aload_n 0, 1) := by decide +kernel
theorem dX8_deal_63 : decode cX8_deal 63 = .ok (.getfield 60, 3) := by decide +kernel
theorem dX8_deal_66 : decode cX8_deal 66 = .ok (.invokevirtual 183, 3) := by decide +kernel
theorem dX8_deal_69 : decode cX8_deal 69 = .ok (.bipush 9, 2) := by decide +kernel
theorem dX8_deal_71 : decode cX8_deal 71 = .ok (.irem, 1) := by decide +kernel
theorem dX8_deal_72 : decode cX8_deal 72 = .ok (.iadd, 1) := by decide +kernel
theorem dX8_deal_73 : decode cX8_deal 73 = .ok (.istore 6, 2) := by decide +kernel
theorem dX8_deal_75 : decode cX8_deal 75 = .ok (.aload_n 0, 1) := by decide +kernel
theorem dX8_deal_76 : decode cX8_deal 76 = .ok (.getfield 60, 3) := by decide +kernel
theorem dX8_deal_79 : decode cX8_deal 79 = .ok (.iload 4, 2) := by decide +kernel
theorem dX8_deal_81 : decode cX8_deal 81 = .ok (.iload 5, 2) := by decide +kernel
theorem dX8_deal_83 : decode cX8_deal 83 = .ok (.iload 6, 2) := by decide +kernel
theorem dX8_deal_85 : decode cX8_deal 85 = .ok (.invokevirtual 136, 3) := by decide +kernel
theorem dX8_deal_88 : decode cX8_deal 88 = .ok (.pop, 1) := by decide +kernel
theorem dX8_deal_89 : decode cX8_deal 89 = .ok (.iinc 3 1, 3) := by decide +kernel
theorem dX8_deal_92 : decode cX8_deal 92 = .ok (.goto (-62), 3) := by decide +kernel
theorem dX8_deal_95 : decode cX8_deal 95 = .ok (.iload_n 2, 1) := by decide +kernel
theorem dX8_deal_96 : decode cX8_deal 96 = .ok (.ireturn, 1) := by decide +kernel
theorem dX8_seed_0 : decode cX8_seed 0 = .ok (.aload_n 0, 1) := by decide +kernel
theorem dX8_seed_1 : decode cX8_seed 1 = .ok (.getfield 60, 3) := by decide +kernel
theorem dX8_seed_4 : decode cX8_seed 4 = .ok (.getfield 189, 3) := by decide +kernel
theorem dX8_seed_7 : decode cX8_seed 7 = .ok (.istore_n 2, 1) := by decide +kernel
theorem dX8_seed_8 : decode cX8_seed 8 = .ok (.aload_n 0, 1) := by decide +kernel
theorem dX8_seed_9 : decode cX8_seed 9 = .ok (.getfield 60, 3) := by decide +kernel
theorem dX8_seed_12 : decode cX8_seed 12 = .ok (.iload_n 1, 1) := by decide +kernel
theorem dX8_seed_13 : decode cX8_seed 13 = .ok (.putfield 189, 3) := by decide +kernel
theorem dX8_seed_16 : decode cX8_seed 16 = .ok (.iload_n 2, 1) := by decide +kernel
theorem dX8_seed_17 : decode cX8_seed 17 = .ok (.ireturn, 1) := by decide +kernel
theorem dX8_hours_0 : decode cX8_hours 0 = .ok (.iload_n 1, 1) := by decide +kernel
theorem dX8_hours_1 : decode cX8_hours 1 = .ok (.iconst 1, 1) := by decide +kernel
theorem dX8_hours_2 : decode cX8_hours 2 = .ok (.sipush 300, 3) := by decide +kernel
theorem dX8_hours_5 : decode cX8_hours 5 = .ok (.invokestatic 77, 3) := by decide +kernel
theorem dX8_hours_8 : decode cX8_hours 8 = .ok (.ifCond .ne 6, 3) := by decide +kernel
theorem dX8_hours_11 : decode cX8_hours 11 = .ok (.ldc 81, 2) := by decide +kernel
theorem dX8_hours_13 : decode cX8_hours 13 = .ok (.ireturn, 1) := by decide +kernel
theorem dX8_hours_14 : decode cX8_hours 14 = .ok (.aload_n 0, 1) := by decide +kernel
theorem dX8_hours_15 : decode cX8_hours 15 = .ok (.getfield 60, 3) := by decide +kernel
theorem dX8_hours_18 : decode cX8_hours 18 = .ok (.getfield 192, 3) := by decide +kernel
theorem dX8_hours_21 : decode cX8_hours 21 = .ok (.istore_n 2, 1) := by decide +kernel
theorem dX8_hours_22 : decode cX8_hours 22 = .ok (.aload_n 0, 1) := by decide +kernel
theorem dX8_hours_23 : decode cX8_hours 23 = .ok (.getfield 60, 3) := by decide +kernel
theorem dX8_hours_26 : decode cX8_hours 26 = .ok (.iload_n 1, 1) := by decide +kernel
theorem dX8_hours_27 : decode cX8_hours 27 = .ok (.sipush 9999, 3) := by decide +kernel
theorem dX8_hours_30 : decode cX8_hours 30 = .ok (.aload_n 0, 1) := by decide +kernel
theorem dX8_hours_31 : decode cX8_hours 31 = .ok (.getfield 60, 3) := by decide +kernel
theorem dX8_hours_34 : decode cX8_hours 34 = .ok (.getfield 195, 3) := by decide +kernel
theorem dX8_hours_37 : decode cX8_hours 37 = .ok (.isub, 1) := by decide +kernel
theorem dX8_hours_38 : decode cX8_hours 38 = .ok (.invokestatic 120, 3) := by decide +kernel
theorem dX8_hours_41 : decode cX8_hours 41 = .ok (.invokevirtual 198, 3) := by decide +kernel
theorem dX8_hours_44 : decode cX8_hours 44 = .ok (.aload_n 0, 1) := by decide +kernel
theorem dX8_hours_45 : decode cX8_hours 45 = .ok (.getfield 60, 3) := by decide +kernel
theorem dX8_hours_48 : decode cX8_hours 48 = .ok (.getfield 192, 3) := by decide +kernel
theorem dX8_hours_51 : decode cX8_hours 51 = .ok (.iload_n 2, 1) := by decide +kernel
theorem dX8_hours_52 : decode cX8_hours 52 = .ok (.isub, 1) := by decide +kernel
theorem dX8_hours_53 : decode cX8_hours 53 = .ok (.ireturn, 1) := by decide +kernel
theorem dX8_night_0 : decode cX8_night 0 = .ok (.iload_n 1, 1) := by decide +kernel
theorem dX8_night_1 : decode cX8_night 1 = .ok (.tableswitch 70 0 3 #[31, 39, 47, 55], 31) := by decide +kernel
theorem dX8_night_32 : decode cX8_night 32 = .ok (.aload_n 0, 1) := by decide +kernel
theorem dX8_night_33 : decode cX8_night 33 = .ok (.getfield 60, 3) := by decide +kernel
theorem dX8_night_36 : decode cX8_night 36 = .ok (.getfield 192, 3) := by decide +kernel
theorem dX8_night_39 : decode cX8_night 39 = .ok (.ireturn, 1) := by decide +kernel
theorem dX8_night_40 : decode cX8_night 40 = .ok (.aload_n 0, 1) := by decide +kernel
theorem dX8_night_41 : decode cX8_night 41 = .ok (.getfield 60, 3) := by decide +kernel
theorem dX8_night_44 : decode cX8_night 44 = .ok (.getfield 202, 3) := by decide +kernel
theorem dX8_night_47 : decode cX8_night 47 = .ok (.ireturn, 1) := by decide +kernel
theorem dX8_night_48 : decode cX8_night 48 = .ok (.aload_n 0, 1) := by decide +kernel
theorem dX8_night_49 : decode cX8_night 49 = .ok (.getfield 60, 3) := by decide +kernel
theorem dX8_night_52 : decode cX8_night 52 = .ok (.getfield 205, 3) := by decide +kernel
theorem dX8_night_55 : decode cX8_night 55 = .ok (.ireturn, 1) := by decide +kernel
theorem dX8_night_56 : decode cX8_night 56 = .ok (.aload_n 0, 1) := by decide +kernel
theorem dX8_night_57 : decode cX8_night 57 = .ok (.getfield 60, 3) := by decide +kernel
theorem dX8_night_60 : decode cX8_night 60 = .ok (.invokevirtual 100, 3) := by decide +kernel
theorem dX8_night_63 : decode cX8_night 63 = .ok (.aload_n 0, 1) := by decide +kernel
theorem dX8_night_64 : decode cX8_night 64 = .ok (.getfield 60, 3) := by decide +kernel
theorem dX8_night_67 : decode cX8_night 67 = .ok (.invokevirtual 208, 3) := by decide +kernel
theorem dX8_night_70 : decode cX8_night 70 = .ok (.ireturn, 1) := by decide +kernel
theorem dX8_night_71 : decode cX8_night 71 = .ok (.ldc 81, 2) := by decide +kernel
theorem dX8_night_73 : decode cX8_night 73 = .ok (.ireturn, 1) := by decide +kernel
theorem dX8_behind_0 : decode cX8_behind 0 = .ok (.iload_n 1, 1) := by decide +kernel
theorem dX8_behind_1 : decode cX8_behind 1 = .ok (.iconst 0, 1) := by decide +kernel
theorem dX8_behind_2 : decode cX8_behind 2 = .ok (.sipush 300, 3) := by decide +kernel
theorem dX8_behind_5 : decode cX8_behind 5 = .ok (.invokestatic 77, 3) := by decide +kernel
theorem dX8_behind_8 : decode cX8_behind 8 = .ok (.ifCond .eq 12, 3) := by decide +kernel
theorem dX8_behind_11 : decode cX8_behind 11 = .ok (.iload_n 2, 1) := by decide +kernel
theorem dX8_behind_12 : decode cX8_behind 12 = .ok (.iconst 0, 1) := by decide +kernel
theorem dX8_behind_13 : decode cX8_behind 13 = .ok (.iconst 3, 1) := by decide +kernel
theorem dX8_behind_14 : decode cX8_behind 14 = .ok (.invokestatic 77, 3) := by decide +kernel
theorem dX8_behind_17 : decode cX8_behind 17 = .ok (.ifCond .ne 6, 3) := by decide +kernel
theorem dX8_behind_20 : decode cX8_behind 20 = .ok (.ldc 81, 2) := by decide +kernel
theorem dX8_behind_22 : decode cX8_behind 22 = .ok (.ireturn, 1) := by decide +kernel
theorem dX8_behind_23 : decode cX8_behind 23 = .ok (.aload_n 0, 1) := by decide +kernel
theorem dX8_behind_24 : decode cX8_behind 24 = .ok (.getfield 67, 3) := by decide +kernel
theorem dX8_behind_27 : decode cX8_behind 27 = .ok (.aload_n 0, 1) := by decide +kernel
theorem dX8_behind_28 : decode cX8_behind 28 = .ok (.getfield 60, 3) := by decide +kernel
theorem dX8_behind_31 : decode cX8_behind 31 = .ok (.invokevirtual 211, 3) := by decide +kernel
theorem dX8_behind_34 : decode cX8_behind 34 = .ok (.aload_n 0, 1) := by decide +kernel
theorem dX8_behind_35 : decode cX8_behind 35 = .ok (.getfield 67, 3) := by decide +kernel
theorem dX8_behind_38 : decode cX8_behind 38 = .ok (.iload_n 1, 1) := by decide +kernel
theorem dX8_behind_39 : decode cX8_behind 39 = .ok (.invokevirtual 198, 3) := by decide +kernel
theorem dX8_behind_42 : decode cX8_behind 42 = .ok (.iload_n 2, 1) := by decide +kernel
theorem dX8_behind_43 : decode cX8_behind 43 = .ok (.tableswitch 49 0 2 #[25, 33, 41], 25) := by decide +kernel
theorem dX8_behind_68 : decode cX8_behind 68 = .ok (.aload_n 0, 1) := by decide +kernel
theorem dX8_behind_69 : decode cX8_behind 69 = .ok (.getfield 67, 3) := by decide +kernel
theorem dX8_behind_72 : decode cX8_behind 72 = .ok (.getfield 192, 3) := by decide +kernel
theorem dX8_behind_75 : decode cX8_behind 75 = .ok (.ireturn, 1) := by decide +kernel
theorem dX8_behind_76 : decode cX8_behind 76 = .ok (.aload_n 0, 1) := by decide +kernel
theorem dX8_behind_77 : decode cX8_behind 77 = .ok (.getfield 67, 3) := by decide +kernel
theorem dX8_behind_80 : decode cX8_behind 80 = .ok (.getfield 124, 3) := by decide +kernel
theorem dX8_behind_83 : decode cX8_behind 83 = .ok (.ireturn, 1) := by decide +kernel
theorem dX8_behind_84 : decode cX8_behind 84 = .ok (.aload_n 0, 1) := by decide +kernel
theorem dX8_behind_85 : decode cX8_behind 85 = .ok (.getfield 67, 3) := by decide +kernel
theorem dX8_behind_88 : decode cX8_behind 88 = .ok (.getfield 130, 3) := by decide +kernel
theorem dX8_behind_91 : decode cX8_behind 91 = .ok (.ireturn, 1) := by decide +kernel
theorem dX8_behind_92 : decode cX8_behind 92 = .ok (.aload_n 0, 1) := by decide +kernel
theorem dX8_behind_93 : decode cX8_behind 93 = .ok (.getfield 67, 3) := by decide +kernel
theorem dX8_behind_96 : decode cX8_behind 96 = .ok (.getfield 82, 3) := by decide +kernel
theorem dX8_behind_99 : decode cX8_behind 99 = .ok (.invokevirtual 215, 3) := by decide +kernel
theorem dX8_behind_102 : decode cX8_behind 102 = .ok (.ireturn, 1) := by decide +kernel
theorem dX8_lasts_0 : decode cX8_lasts 0 = .ok (.aload_n 0, 1) := by decide +kernel
theorem dX8_lasts_1 : decode cX8_lasts 1 = .ok (.getfield 67, 3) := by decide +kernel
theorem dX8_lasts_4 : decode cX8_lasts 4 = .ok (.aload_n 0, 1) := by decide +kernel
theorem dX8_lasts_5 : decode cX8_lasts 5 = .ok (.getfield 60, 3) := by decide +kernel
theorem dX8_lasts_8 : decode cX8_lasts 8 = .ok (.invokevirtual 211, 3) := by decide +kernel
theorem dX8_lasts_11 : decode cX8_lasts 11 = .ok (.iconst 1, 1) := by decide +kernel
theorem dX8_lasts_12 : decode cX8_lasts 12 = .ok (.istore_n 1, 1) := by decide +kernel
theorem dX8_lasts_13 : decode cX8_lasts 13 = .ok (.iload_n 1, 1) := by decide +kernel
theorem dX8_lasts_14 : decode cX8_lasts 14 = .ok (.sipush 300, 3) := by decide +kernel
theorem dX8_lasts_17 : decode cX8_lasts 17 = .ok (.if_icmp .gt 21, 3) := by decide +kernel
theorem dX8_lasts_20 : decode cX8_lasts 20 = .ok (.aload_n 0, 1) := by decide +kernel
theorem dX8_lasts_21 : decode cX8_lasts 21 = .ok (.getfield 67, 3) := by decide +kernel
theorem dX8_lasts_24 : decode cX8_lasts 24 = .ok (.invokevirtual 218, 3) := by decide +kernel
theorem dX8_lasts_27 : decode cX8_lasts 27 = .ok (.ifCond .eq 5, 3) := by decide +kernel
theorem dX8_lasts_30 : decode cX8_lasts 30 = .ok (.iload_n 1, 1) := by decide +kernel
theorem dX8_lasts_31 : decode cX8_lasts 31 = .ok (.ireturn, 1) := by decide +kernel
theorem dX8_lasts_32 : decode cX8_lasts 32 = .ok (.iinc 1 1, 3) := by decide +kernel
theorem dX8_lasts_35 : decode cX8_lasts 35 = .ok (.goto (-22), 3) := by decide +kernel
theorem dX8_lasts_38 : decode cX8_lasts 38 = .ok (.ldc 222, 2) := by decide +kernel
theorem dX8_lasts_40 : decode cX8_lasts 40 = .ok (.ireturn, 1) := by decide +kernel
theorem dX8_loss_0 : decode cX8_loss 0 = .ok (.aload_n 0, 1) := by decide +kernel
theorem dX8_loss_1 : decode cX8_loss 1 = .ok (.getfield 67, 3) := by decide +kernel
theorem dX8_loss_4 : decode cX8_loss 4 = .ok (.aload_n 0, 1) := by decide +kernel
theorem dX8_loss_5 : decode cX8_loss 5 = .ok (.getfield 60, 3) := by decide +kernel
theorem dX8_loss_8 : decode cX8_loss 8 = .ok (.invokevirtual 211, 3) := by decide +kernel
theorem dX8_loss_11 : decode cX8_loss 11 = .ok (.iconst 1, 1) := by decide +kernel
theorem dX8_loss_12 : decode cX8_loss 12 = .ok (.istore_n 1, 1) := by decide +kernel
theorem dX8_loss_13 : decode cX8_loss 13 = .ok (.iload_n 1, 1) := by decide +kernel
theorem dX8_loss_14 : decode cX8_loss 14 = .ok (.sipush 300, 3) := by decide +kernel
theorem dX8_loss_17 : decode cX8_loss 17 = .ok (.if_icmp .gt 36, 3) := by decide +kernel
theorem dX8_loss_20 : decode cX8_loss 20 = .ok (.aload_n 0, 1) := by decide +kernel
theorem dX8_loss_21 : decode cX8_loss 21 = .ok (.getfield 67, 3) := by decide +kernel
theorem dX8_loss_24 : decode cX8_loss 24 = .ok (.iconst 1, 1) := by decide +kernel
theorem dX8_loss_25 : decode cX8_loss 25 = .ok (.invokevirtual 198, 3) := by decide +kernel
theorem dX8_loss_28 : decode cX8_loss 28 = .ok (.aload_n 0, 1) := by decide +kernel
theorem dX8_loss_29 : decode cX8_loss 29 = .ok (.getfield 67, 3) := by decide +kernel
theorem dX8_loss_32 : decode cX8_loss 32 = .ok (.getfield 192, 3) := by decide +kernel
theorem dX8_loss_35 : decode cX8_loss 35 = .ok (.aload_n 0, 1) := by decide +kernel
theorem dX8_loss_36 : decode cX8_loss 36 = .ok (.getfield 60, 3) := by decide +kernel
theorem dX8_loss_39 : decode cX8_loss 39 = .ok (.getfield 192, 3) := by decide +kernel
theorem dX8_loss_42 : decode cX8_loss 42 = .ok (.if_icmp .le 5, 3) := by decide +kernel
theorem dX8_loss_45 : decode cX8_loss 45 = .ok (.iload_n 1, 1) := by decide +kernel
theorem dX8_loss_46 : decode cX8_loss 46 = .ok (.ireturn, 1) := by decide +kernel
theorem dX8_loss_47 : decode cX8_loss 47 = .ok (.iinc 1 1, 3) := by decide +kernel
theorem dX8_loss_50 : decode cX8_loss 50 = .ok (.goto (-37), 3) := by decide +kernel
theorem dX8_loss_53 : decode cX8_loss 53 = .ok (.ldc 222, 2) := by decide +kernel
theorem dX8_loss_55 : decode cX8_loss 55 = .ok (.ireturn, 1) := by decide +kernel
theorem dX8_dark_0 : decode cX8_dark 0 = .ok (.iload_n 1, 1) := by decide +kernel
theorem dX8_dark_1 : decode cX8_dark 1 = .ok (.iconst 0, 1) := by decide +kernel
theorem dX8_dark_2 : decode cX8_dark 2 = .ok (.bipush 100, 2) := by decide +kernel
theorem dX8_dark_4 : decode cX8_dark 4 = .ok (.invokestatic 77, 3) := by decide +kernel
theorem dX8_dark_7 : decode cX8_dark 7 = .ok (.ifCond .ne 6, 3) := by decide +kernel
theorem dX8_dark_10 : decode cX8_dark 10 = .ok (.ldc 81, 2) := by decide +kernel
theorem dX8_dark_12 : decode cX8_dark 12 = .ok (.ireturn, 1) := by decide +kernel
theorem dX8_dark_13 : decode cX8_dark 13 = .ok (.aload_n 0, 1) := by decide +kernel
theorem dX8_dark_14 : decode cX8_dark 14 = .ok (.getfield 60, 3) := by decide +kernel
theorem dX8_dark_17 : decode cX8_dark 17 = .ok (.invokevirtual 100, 3) := by decide +kernel
theorem dX8_dark_20 : decode cX8_dark 20 = .ok (.iconst 0, 1) := by decide +kernel
theorem dX8_dark_21 : decode cX8_dark 21 = .ok (.istore_n 2, 1) := by decide +kernel
theorem dX8_dark_22 : decode cX8_dark 22 = .ok (.iconst 0, 1) := by decide +kernel
theorem dX8_dark_23 : decode cX8_dark 23 = .ok (.istore_n 3, 1) := by decide +kernel
theorem dX8_dark_24 : decode cX8_dark 24 = .ok (.iload_n 3, 1) := by decide +kernel
theorem dX8_dark_25 : decode cX8_dark 25 = .ok (.aload_n 0, 1) := by decide +kernel
theorem dX8_dark_26 : decode cX8_dark 26 = .ok (.getfield 60, 3) := by decide +kernel
theorem dX8_dark_29 : decode cX8_dark 29 = .ok (.getfield 82, 3) := by decide +kernel
theorem dX8_dark_32 : decode cX8_dark 32 = .ok (.getfield 117, 3) := by decide +kernel
theorem dX8_dark_35 : decode cX8_dark 35 = .ok (.if_icmp .ge 28, 3) := by decide +kernel
theorem dX8_dark_38 : decode cX8_dark 38 = .ok (.aload_n 0, 1) := by decide +kernel
theorem dX8_dark_39 : decode cX8_dark 39 = .ok (.getfield 60, 3) := by decide +kernel
theorem dX8_dark_42 : decode cX8_dark 42 = .ok (.getfield 103, 3) := by decide +kernel
theorem dX8_dark_45 : decode cX8_dark 45 = .ok (.iload_n 3, 1) := by decide +kernel
theorem dX8_dark_46 : decode cX8_dark 46 = .ok (.iaload, 1) := by decide +kernel
theorem dX8_dark_47 : decode cX8_dark 47 = .ok (.iload_n 1, 1) := by decide +kernel
theorem dX8_dark_48 : decode cX8_dark 48 = .ok (.if_icmp .ge 9, 3) := by decide +kernel
theorem dX8_dark_51 : decode cX8_dark 51 = .ok (.iload_n 2, 1) := by decide +kernel
theorem dX8_dark_52 : decode cX8_dark 52 = .ok (.iconst 1, 1) := by decide +kernel
theorem dX8_dark_53 : decode cX8_dark 53 = .ok (.iload_n 3, 1) := by decide +kernel
theorem dX8_dark_54 : decode cX8_dark 54 = .ok (.ishl, 1) := by decide +kernel
theorem dX8_dark_55 : decode cX8_dark 55 = .ok (.ior, 1) := by decide +kernel
theorem dX8_dark_56 : decode cX8_dark 56 = .ok (.istore_n 2, 1) := by decide +kernel
theorem dX8_dark_57 : decode cX8_dark 57 = .ok (.iinc 3 1, 3) := by decide +kernel
theorem dX8_dark_60 : decode cX8_dark 60 = .ok (.goto (-36), 3) := by decide +kernel
theorem dX8_dark_63 : decode cX8_dark 63 = .ok (.iload_n 2, 1) := by decide +kernel
theorem dX8_dark_64 : decode cX8_dark 64 = .ok (.ireturn, 1) := by decide +kernel
theorem dX8_fires_0 : decode cX8_fires 0 = .ok (.iload_n 1, 1) := by decide +kernel
theorem dX8_fires_1 : decode cX8_fires 1 = .ok (.iconst 0, 1) := by decide +kernel
theorem dX8_fires_2 : decode cX8_fires 2 = .ok (.bipush 18, 2) := by decide +kernel
theorem dX8_fires_4 : decode cX8_fires 4 = .ok (.invokestatic 77, 3) := by decide +kernel
theorem dX8_fires_7 : decode cX8_fires 7 = .ok (.ifCond .eq 12, 3) := by decide +kernel
theorem dX8_fires_10 : decode cX8_fires 10 = .ok (.iload_n 2, 1) := by decide +kernel
theorem dX8_fires_11 : decode cX8_fires 11 = .ok (.iconst 0, 1) := by decide +kernel
theorem dX8_fires_12 : decode cX8_fires 12 = .ok (.iconst 2, 1) := by decide +kernel
theorem dX8_fires_13 : decode cX8_fires 13 = .ok (.invokestatic 77, 3) := by decide +kernel
theorem dX8_fires_16 : decode cX8_fires 16 = .ok (.ifCond .ne 6, 3) := by decide +kernel
theorem dX8_fires_19 : decode cX8_fires 19 = .ok (.ldc 81, 2) := by decide +kernel
theorem dX8_fires_21 : decode cX8_fires 21 = .ok (.ireturn, 1) := by decide +kernel
theorem dX8_fires_22 : decode cX8_fires 22 = .ok (.aload_n 0, 1) := by decide +kernel
theorem dX8_fires_23 : decode cX8_fires 23 = .ok (.getfield 60, 3) := by decide +kernel
theorem dX8_fires_26 : decode cX8_fires 26 = .ok (.getfield 82, 3) := by decide +kernel
theorem dX8_fires_29 : decode cX8_fires 29 = .ok (.getfield 117, 3) := by decide +kernel
theorem dX8_fires_32 : decode cX8_fires 32 = .ok (.iconst 1, 1) := by decide +kernel
theorem dX8_fires_33 : decode cX8_fires 33 = .ok (.bipush 6, 2) := by decide +kernel
theorem dX8_fires_35 : decode cX8_fires 35 = .ok (.invokestatic 77, 3) := by decide +kernel
theorem dX8_fires_38 : decode cX8_fires 38 = .ok (.ifCond .ne 6, 3) := by decide +kernel
theorem dX8_fires_41 : decode cX8_fires 41 = .ok (.ldc 222, 2) := by decide +kernel
theorem dX8_fires_43 : decode cX8_fires 43 = .ok (.ireturn, 1) := by decide +kernel
theorem dX8_fires_44 : decode cX8_fires 44 = .ok (.aload_n 0, 1) := by decide +kernel
theorem dX8_fires_45 : decode cX8_fires 45 = .ok (.getfield 67, 3) := by decide +kernel
theorem dX8_fires_48 : decode cX8_fires 48 = .ok (.aload_n 0, 1) := by decide +kernel
theorem dX8_fires_49 : decode cX8_fires 49 = .ok (.getfield 60, 3) := by decide +kernel
theorem dX8_fires_52 : decode cX8_fires 52 = .ok (.invokevirtual 211, 3) := by decide +kernel
theorem dX8_fires_55 : decode cX8_fires 55 = .ok (.aload_n 0, 1) := by decide +kernel
theorem dX8_fires_56 : decode cX8_fires 56 = .ok (.getfield 10, 3) := by decide +kernel
theorem dX8_fires_59 : decode cX8_fires 59 = .ok (.aload_n 0, 1) := by decide +kernel
theorem dX8_fires_60 : decode cX8_fires 60 = .ok (.getfield 67, 3) := by decide +kernel
theorem dX8_fires_63 : decode cX8_fires 63 = .ok (.iload_n 1, 1) := by decide +kernel
theorem dX8_fires_64 : decode cX8_fires 64 = .ok (.invokevirtual 223, 3) := by decide +kernel
theorem dX8_fires_67 : decode cX8_fires 67 = .ok (.iload_n 2, 1) := by decide +kernel
theorem dX8_fires_68 : decode cX8_fires 68 = .ok (.lookupswitch 44 #[(0, 28), (1, 36)], 28) := by decide +kernel
theorem dX8_fires_96 : decode cX8_fires 96 = .ok (.aload_n 0, 1) := by decide +kernel
theorem dX8_fires_97 : decode cX8_fires 97 = .ok (.getfield 10, 3) := by decide +kernel
theorem dX8_fires_100 : decode cX8_fires 100 = .ok (.getfield 227, 3) := by decide +kernel
theorem dX8_fires_103 : decode cX8_fires 103 = .ok (.ireturn, 1) := by decide +kernel
theorem dX8_fires_104 : decode cX8_fires 104 = .ok (.aload_n 0, 1) := by decide +kernel
theorem dX8_fires_105 : decode cX8_fires 105 = .ok (.getfield 10, 3) := by decide +kernel
theorem dX8_fires_108 : decode cX8_fires 108 = .ok (.getfield 229, 3) := by decide +kernel
theorem dX8_fires_111 : decode cX8_fires 111 = .ok (.ireturn, 1) := by decide +kernel
theorem dX8_fires_112 : decode cX8_fires 112 = .ok (.aload_n 0, 1) := by decide +kernel
theorem dX8_fires_113 : decode cX8_fires 113 = .ok (.getfield 10, 3) := by decide +kernel
theorem dX8_fires_116 : decode cX8_fires 116 = .ok (.getfield 232, 3) := by decide +kernel
theorem dX8_fires_119 : decode cX8_fires 119 = .ok (.ireturn, 1) := by decide +kernel
theorem dX8_watch_0 : decode cX8_watch 0 = .ok (.iload_n 1, 1) := by decide +kernel
theorem dX8_watch_1 : decode cX8_watch 1 = .ok (.iconst 1, 1) := by decide +kernel
theorem dX8_watch_2 : decode cX8_watch 2 = .ok (.bipush 60, 2) := by decide +kernel
theorem dX8_watch_4 : decode cX8_watch 4 = .ok (.invokestatic 77, 3) := by decide +kernel
theorem dX8_watch_7 : decode cX8_watch 7 = .ok (.ifCond .eq 12, 3) := by decide +kernel
theorem dX8_watch_10 : decode cX8_watch 10 = .ok (.iload_n 2, 1) := by decide +kernel
theorem dX8_watch_11 : decode cX8_watch 11 = .ok (.iconst 0, 1) := by decide +kernel
theorem dX8_watch_12 : decode cX8_watch 12 = .ok (.iconst 1, 1) := by decide +kernel
theorem dX8_watch_13 : decode cX8_watch 13 = .ok (.invokestatic 77, 3) := by decide +kernel
theorem dX8_watch_16 : decode cX8_watch 16 = .ok (.ifCond .ne 6, 3) := by decide +kernel
theorem dX8_watch_19 : decode cX8_watch 19 = .ok (.ldc 81, 2) := by decide +kernel
theorem dX8_watch_21 : decode cX8_watch 21 = .ok (.ireturn, 1) := by decide +kernel
theorem dX8_watch_22 : decode cX8_watch 22 = .ok (.ldc 222, 2) := by decide +kernel
theorem dX8_watch_24 : decode cX8_watch 24 = .ok (.istore_n 3, 1) := by decide +kernel
theorem dX8_watch_25 : decode cX8_watch 25 = .ok (.ldc 222, 2) := by decide +kernel
theorem dX8_watch_27 : decode cX8_watch 27 = .ok (.istore 4, 2) := by decide +kernel
theorem dX8_watch_29 : decode cX8_watch 29 = .ok (.iconst 0, 1) := by decide +kernel
theorem dX8_watch_30 : decode cX8_watch 30 = .ok (.istore 5, 2) := by decide +kernel
theorem dX8_watch_32 : decode cX8_watch 32 = .ok (.iload 5, 2) := by decide +kernel
theorem dX8_watch_34 : decode cX8_watch 34 = .ok (.aload_n 0, 1) := by decide +kernel
theorem dX8_watch_35 : decode cX8_watch 35 = .ok (.getfield 60, 3) := by decide +kernel
theorem dX8_watch_38 : decode cX8_watch 38 = .ok (.getfield 180, 3) := by decide +kernel
theorem dX8_watch_41 : decode cX8_watch 41 = .ok (.if_icmp .ge 67, 3) := by decide +kernel
theorem dX8_watch_44 : decode cX8_watch 44 = .ok (.aload_n 0, 1) := by decide +kernel
theorem dX8_watch_45 : decode cX8_watch 45 = .ok (.getfield 67, 3) := by decide +kernel
theorem dX8_watch_48 : decode cX8_watch 48 = .ok (.aload_n 0, 1) := by decide +kernel
theorem dX8_watch_49 : decode cX8_watch 49 = .ok (.getfield 60, 3) := by decide +kernel
theorem dX8_watch_52 : decode cX8_watch 52 = .ok (.invokevirtual 211, 3) := by decide +kernel
theorem dX8_watch_55 : decode cX8_watch 55 = .ok (.aload_n 0, 1) := by decide +kernel
theorem dX8_watch_56 : decode cX8_watch 56 = .ok (.getfield 67, 3) := by decide +kernel
theorem dX8_watch_59 : decode cX8_watch 59 = .ok (.iload 5, 2) := by decide +kernel
theorem dX8_watch_61 : decode cX8_watch 61 = .ok (.invokevirtual 235, 3) := by decide +kernel
theorem dX8_watch_64 : decode cX8_watch 64 = .ok (.aload_n 0, 1) := by decide +kernel
theorem dX8_watch_65 : decode cX8_watch 65 = .ok (.getfield 67, 3) := by decide +kernel
theorem dX8_watch_68 : decode cX8_watch 68 = .ok (.iload_n 1, 1) := by decide +kernel
theorem dX8_watch_69 : decode cX8_watch 69 = .ok (.invokevirtual 198, 3) := by decide +kernel
theorem dX8_watch_72 : decode cX8_watch 72 = .ok (.iload_n 3, 1) := by decide +kernel
theorem dX8_watch_73 : decode cX8_watch 73 = .ok (.ldc 222, 2) := by decide +kernel
theorem dX8_watch_75 : decode cX8_watch 75 = .ok (.if_icmp .eq 15, 3) := by decide +kernel
theorem dX8_watch_78 : decode cX8_watch 78 = .ok (.aload_n 0, 1) := by decide +kernel
theorem dX8_watch_79 : decode cX8_watch 79 = .ok (.getfield 67, 3) := by decide +kernel
theorem dX8_watch_82 : decode cX8_watch 82 = .ok (.getfield 192, 3) := by decide +kernel
theorem dX8_watch_85 : decode cX8_watch 85 = .ok (.iload 4, 2) := by decide +kernel
theorem dX8_watch_87 : decode cX8_watch 87 = .ok (.if_icmp .ge 15, 3) := by decide +kernel
theorem dX8_watch_90 : decode cX8_watch 90 = .ok (.iload 5, 2) := by decide +kernel
theorem dX8_watch_92 : decode cX8_watch 92 = .ok (.istore_n 3, 1) := by decide +kernel
theorem dX8_watch_93 : decode cX8_watch 93 = .ok (.aload_n 0, 1) := by decide +kernel
theorem dX8_watch_94 : decode cX8_watch 94 = .ok (.getfield 67, 3) := by decide +kernel
theorem dX8_watch_97 : decode cX8_watch 97 = .ok (.getfield 192, 3) := by decide +kernel
theorem dX8_watch_100 : decode cX8_watch 100 = .ok (.istore 4, 2) := by decide +kernel
theorem dX8_watch_102 : decode cX8_watch 102 = .ok (.iinc 5 1, 3) := by decide +kernel
theorem dX8_watch_105 : decode cX8_watch 105 = .ok (.goto (-73), 3) := by decide +kernel
theorem dX8_watch_108 : decode cX8_watch 108 = .ok (.iload_n 2, 1) := by decide +kernel
theorem dX8_watch_109 : decode cX8_watch 109 = .ok (.ifCond .ne 7, 3) := by decide +kernel
theorem dX8_watch_112 : decode cX8_watch 112 = .ok (.iload_n 3, 1) := by decide +kernel
theorem dX8_watch_113 : decode cX8_watch 113 = .ok (.goto 5, 3) := by decide +kernel
theorem dX8_watch_116 : decode cX8_watch 116 = .ok (.iload 4, 2) := by decide +kernel
theorem dX8_watch_118 : decode cX8_watch 118 = .ok (.ireturn, 1) := by decide +kernel
theorem dX8_place_0 : decode cX8_place 0 = .ok (.aload_n 0, 1) := by decide +kernel
theorem dX8_place_1 : decode cX8_place 1 = .ok (.getfield 60, 3) := by decide +kernel
theorem dX8_place_4 : decode cX8_place 4 = .ok (.iload_n 1, 1) := by decide +kernel
theorem dX8_place_5 : decode cX8_place 5 = .ok (.invokevirtual 140, 3) := by decide +kernel
theorem dX8_place_8 : decode cX8_place 8 = .ok (.ifCond .eq 13, 3) := by decide +kernel
theorem dX8_place_11 : decode cX8_place 11 = .ok (.iload_n 2, 1) := by decide +kernel
theorem dX8_place_12 : decode cX8_place 12 = .ok (.iconst 1, 1) := by decide +kernel
theorem dX8_place_13 : decode cX8_place 13 = .ok (.bipush 60, 2) := by decide +kernel
theorem dX8_place_15 : decode cX8_place 15 = .ok (.invokestatic 77, 3) := by decide +kernel
theorem dX8_place_18 : decode cX8_place 18 = .ok (.ifCond .ne 6, 3) := by decide +kernel
theorem dX8_place_21 : decode cX8_place 21 = .ok (.ldc 81, 2) := by decide +kernel
theorem dX8_place_23 : decode cX8_place 23 = .ok (.ireturn, 1) := by decide +kernel
theorem dX8_place_24 : decode cX8_place 24 = .ok (.ldc 222, 2) := by decide +kernel
theorem dX8_place_26 : decode cX8_place 26 = .ok (.istore_n 3, 1) := by decide +kernel
theorem dX8_place_27 : decode cX8_place 27 = .ok (.iconst 0, 1) := by decide +kernel
theorem dX8_place_28 : decode cX8_place 28 = .ok (.istore 4, 2) := by decide +kernel
theorem dX8_place_30 : decode cX8_place 30 = .ok (.iconst 0, 1) := by decide +kernel
theorem dX8_place_31 : decode cX8_place 31 = .ok (.istore 5, 2) := by decide +kernel
theorem dX8_place_33 : decode cX8_place 33 = .ok (.iload 5, 2) := by decide +kernel
theorem dX8_place_35 : decode cX8_place 35 = .ok (.aload_n 0, 1) := by decide +kernel
theorem dX8_place_36 : decode cX8_place 36 = .ok (.getfield 60, 3) := by decide +kernel
theorem dX8_place_39 : decode cX8_place 39 = .ok (.getfield 82, 3) := by decide +kernel
theorem dX8_place_42 : decode cX8_place 42 = .ok (.getfield 117, 3) := by decide +kernel
theorem dX8_place_45 : decode cX8_place 45 = .ok (.if_icmp .ge 85, 3) := by decide +kernel
theorem dX8_place_48 : decode cX8_place 48 = .ok (.aload_n 0, 1) := by decide +kernel
theorem dX8_place_49 : decode cX8_place 49 = .ok (.getfield 67, 3) := by decide +kernel
theorem dX8_place_52 : decode cX8_place 52 = .ok (.aload_n 0, 1) := by decide +kernel
theorem dX8_place_53 : decode cX8_place 53 = .ok (.getfield 60, 3) := by decide +kernel
theorem dX8_place_56 : decode cX8_place 56 = .ok (.invokevirtual 211, 3) := by decide +kernel
theorem dX8_place_59 : decode cX8_place 59 = .ok (.aload_n 0, 1) := by decide +kernel
theorem dX8_place_60 : decode cX8_place 60 = .ok (.getfield 67, 3) := by decide +kernel
theorem dX8_place_63 : decode cX8_place 63 = .ok (.getfield 143, 3) := by decide +kernel
theorem dX8_place_66 : decode cX8_place 66 = .ok (.iload_n 1, 1) := by decide +kernel
theorem dX8_place_67 : decode cX8_place 67 = .ok (.aaload, 1) := by decide +kernel
theorem dX8_place_68 : decode cX8_place 68 = .ok (.iload 5, 2) := by decide +kernel
theorem dX8_place_70 : decode cX8_place 70 = .ok (.putfield 152, 3) := by decide +kernel
theorem dX8_place_73 : decode cX8_place 73 = .ok (.aload_n 0, 1) := by decide +kernel
theorem dX8_place_74 : decode cX8_place 74 = .ok (.getfield 67, 3) := by decide +kernel
theorem dX8_place_77 : decode cX8_place 77 = .ok (.getfield 143, 3) := by decide +kernel
theorem dX8_place_80 : decode cX8_place 80 = .ok (.iload_n 1, 1) := by decide +kernel
theorem dX8_place_81 : decode cX8_place 81 = .ok (.aaload, 1) := by decide +kernel
theorem dX8_place_82 : decode cX8_place 82 = .ok (.iconst 1, 1) := by decide +kernel
theorem dX8_place_83 : decode cX8_place 83 = .ok (.putfield 161, 3) := by decide +kernel
theorem dX8_place_86 : decode cX8_place 86 = .ok (.aload_n 0, 1) := by decide +kernel
theorem dX8_place_87 : decode cX8_place 87 = .ok (.getfield 67, 3) := by decide +kernel
theorem dX8_place_90 : decode cX8_place 90 = .ok (.iload_n 2, 1) := by decide +kernel
theorem dX8_place_91 : decode cX8_place 91 = .ok (.invokevirtual 198, 3) := by decide +kernel
theorem dX8_place_94 : decode cX8_place 94 = .ok (.iload_n 3, 1) := by decide +kernel
theorem dX8_place_95 : decode cX8_place 95 = .ok (.ldc 222, 2) := by decide +kernel
theorem dX8_place_97 : decode cX8_place 97 = .ok (.if_icmp .eq 15, 3) := by decide +kernel
theorem dX8_place_100 : decode cX8_place 100 = .ok (.aload_n 0, 1) := by decide +kernel
theorem dX8_place_101 : decode cX8_place 101 = .ok (.getfield 67, 3) := by decide +kernel
theorem dX8_place_104 : decode cX8_place 104 = .ok (.getfield 192, 3) := by decide +kernel
theorem dX8_place_107 : decode cX8_place 107 = .ok (.iload 4, 2) := by decide +kernel
theorem dX8_place_109 : decode cX8_place 109 = .ok (.if_icmp .ge 15, 3) := by decide +kernel
theorem dX8_place_112 : decode cX8_place 112 = .ok (.iload 5, 2) := by decide +kernel
theorem dX8_place_114 : decode cX8_place 114 = .ok (.istore_n 3, 1) := by decide +kernel
theorem dX8_place_115 : decode cX8_place 115 = .ok (.aload_n 0, 1) := by decide +kernel
theorem dX8_place_116 : decode cX8_place 116 = .ok (.getfield 67, 3) := by decide +kernel
theorem dX8_place_119 : decode cX8_place 119 = .ok (.getfield 192, 3) := by decide +kernel
theorem dX8_place_122 : decode cX8_place 122 = .ok (.istore 4, 2) := by decide +kernel
theorem dX8_place_124 : decode cX8_place 124 = .ok (.iinc 5 1, 3) := by decide +kernel
theorem dX8_place_127 : decode cX8_place 127 = .ok (.goto (-94), 3) := by decide +kernel
theorem dX8_place_130 : decode cX8_place 130 = .ok (.iload_n 3, 1) := by decide +kernel
theorem dX8_place_131 : decode cX8_place 131 = .ok (.ireturn, 1) := by decide +kernel
theorem dX8_signs_0 : decode cX8_signs 0 = .ok (.iload_n 1, 1) := by decide +kernel
theorem dX8_signs_1 : decode cX8_signs 1 = .ok (.invokestatic 238, 3) := by decide +kernel
theorem dX8_signs_4 : decode cX8_signs 4 = .ok (.ifCond .eq 22, 3) := by decide +kernel
theorem dX8_signs_7 : decode cX8_signs 7 = .ok (.iload_n 2, 1) := by decide +kernel
theorem dX8_signs_8 : decode cX8_signs 8 = .ok (.iconst 0, 1) := by decide +kernel
theorem dX8_signs_9 : decode cX8_signs 9 = .ok (.bipush 60, 2) := by decide +kernel
theorem dX8_signs_11 : decode cX8_signs 11 = .ok (.invokestatic 77, 3) := by decide +kernel
theorem dX8_signs_14 : decode cX8_signs 14 = .ok (.ifCond .eq 12, 3) := by decide +kernel
theorem dX8_signs_17 : decode cX8_signs 17 = .ok (.iload_n 3, 1) := by decide +kernel
theorem dX8_signs_18 : decode cX8_signs 18 = .ok (.iconst 0, 1) := by decide +kernel
theorem dX8_signs_19 : decode cX8_signs 19 = .ok (.iconst 1, 1) := by decide +kernel
theorem dX8_signs_20 : decode cX8_signs 20 = .ok (.invokestatic 77, 3) := by decide +kernel
theorem dX8_signs_23 : decode cX8_signs 23 = .ok (.ifCond .ne 6, 3) := by decide +kernel
theorem dX8_signs_26 : decode cX8_signs 26 = .ok (.ldc 81, 2) := by decide +kernel
theorem dX8_signs_28 : decode cX8_signs 28 = .ok (.ireturn, 1) := by decide +kernel
theorem dX8_signs_29 : decode cX8_signs 29 = .ok (.aload_n 0, 1) := by decide +kernel
theorem dX8_signs_30 : decode cX8_signs 30 = .ok (.getfield 25, 3) := by decide +kernel
theorem dX8_signs_33 : decode cX8_signs 33 = .ok (.iload_n 1, 1) := by decide +kernel
theorem dX8_signs_34 : decode cX8_signs 34 = .ok (.aaload, 1) := by decide +kernel
theorem dX8_signs_35 : decode cX8_signs 35 = .ok (.getfield 241, 3) := by decide +kernel
theorem dX8_signs_38 : decode cX8_signs 38 = .ok (.iconst (-1), 1) := by decide +kernel
theorem dX8_signs_39 : decode cX8_signs 39 = .ok (.if_icmp .ne 6, 3) := by decide +kernel
theorem dX8_signs_42 : decode cX8_signs 42 = .ok (.ldc 244, 2) := by decide +kernel
theorem dX8_signs_44 : decode cX8_signs 44 = .ok (.ireturn, 1) := by decide +kernel
theorem dX8_signs_45 : decode cX8_signs 45 = .ok (.ldc 222, 2) := by decide +kernel
theorem dX8_signs_47 : decode cX8_signs 47 = .ok (.istore 4, 2) := by decide +kernel
theorem dX8_signs_49 : decode cX8_signs 49 = .ok (.iconst 0, 1) := by decide +kernel
theorem dX8_signs_50 : decode cX8_signs 50 = .ok (.istore 5, 2) := by decide +kernel
theorem dX8_signs_52 : decode cX8_signs 52 = .ok (.iconst 0, 1) := by decide +kernel
theorem dX8_signs_53 : decode cX8_signs 53 = .ok (.istore 6, 2) := by decide +kernel
theorem dX8_signs_55 : decode cX8_signs 55 = .ok (.iload 6, 2) := by decide +kernel
theorem dX8_signs_57 : decode cX8_signs 57 = .ok (.bipush 40, 2) := by decide +kernel
theorem dX8_signs_59 : decode cX8_signs 59 = .ok (.if_icmp .gt 77, 3) := by decide +kernel
theorem dX8_signs_62 : decode cX8_signs 62 = .ok (.aload_n 0, 1) := by decide +kernel
theorem dX8_signs_63 : decode cX8_signs 63 = .ok (.getfield 67, 3) := by decide +kernel
theorem dX8_signs_66 : decode cX8_signs 66 = .ok (.aload_n 0, 1) := by decide +kernel
theorem dX8_signs_67 : decode cX8_signs 67 = .ok (.getfield 60, 3) := by decide +kernel
theorem dX8_signs_70 : decode cX8_signs 70 = .ok (.invokevirtual 211, 3) := by decide +kernel
theorem dX8_signs_73 : decode cX8_signs 73 = .ok (.aload_n 0, 1) := by decide +kernel
theorem dX8_signs_74 : decode cX8_signs 74 = .ok (.getfield 67, 3) := by decide +kernel
theorem dX8_signs_77 : decode cX8_signs 77 = .ok (.iload 6, 2) := by decide +kernel
theorem dX8_signs_79 : decode cX8_signs 79 = .ok (.putfield 127, 3) := by decide +kernel
theorem dX8_signs_82 : decode cX8_signs 82 = .ok (.aload_n 0, 1) := by decide +kernel
theorem dX8_signs_83 : decode cX8_signs 83 = .ok (.getfield 67, 3) := by decide +kernel
theorem dX8_signs_86 : decode cX8_signs 86 = .ok (.iload_n 2, 1) := by decide +kernel
theorem dX8_signs_87 : decode cX8_signs 87 = .ok (.invokevirtual 198, 3) := by decide +kernel
theorem dX8_signs_90 : decode cX8_signs 90 = .ok (.aload_n 0, 1) := by decide +kernel
theorem dX8_signs_91 : decode cX8_signs 91 = .ok (.getfield 25, 3) := by decide +kernel
theorem dX8_signs_94 : decode cX8_signs 94 = .ok (.iload_n 1, 1) := by decide +kernel
theorem dX8_signs_95 : decode cX8_signs 95 = .ok (.aaload, 1) := by decide +kernel
theorem dX8_signs_96 : decode cX8_signs 96 = .ok (.aload_n 0, 1) := by decide +kernel
theorem dX8_signs_97 : decode cX8_signs 97 = .ok (.getfield 67, 3) := by decide +kernel
theorem dX8_signs_100 : decode cX8_signs 100 = .ok (.getfield 82, 3) := by decide +kernel
theorem dX8_signs_103 : decode cX8_signs 103 = .ok (.invokevirtual 245, 3) := by decide +kernel
theorem dX8_signs_106 : decode cX8_signs 106 = .ok (.istore 7, 2) := by decide +kernel
theorem dX8_signs_108 : decode cX8_signs 108 = .ok (.iload 4, 2) := by decide +kernel
theorem dX8_signs_110 : decode cX8_signs 110 = .ok (.ldc 222, 2) := by decide +kernel
theorem dX8_signs_112 : decode cX8_signs 112 = .ok (.if_icmp .eq 10, 3) := by decide +kernel
theorem dX8_signs_115 : decode cX8_signs 115 = .ok (.iload 7, 2) := by decide +kernel
theorem dX8_signs_117 : decode cX8_signs 117 = .ok (.iload 5, 2) := by decide +kernel
theorem dX8_signs_119 : decode cX8_signs 119 = .ok (.if_icmp .ge 11, 3) := by decide +kernel
theorem dX8_signs_122 : decode cX8_signs 122 = .ok (.iload 6, 2) := by decide +kernel
theorem dX8_signs_124 : decode cX8_signs 124 = .ok (.istore 4, 2) := by decide +kernel
theorem dX8_signs_126 : decode cX8_signs 126 = .ok (.iload 7, 2) := by decide +kernel
theorem dX8_signs_128 : decode cX8_signs 128 = .ok (.istore 5, 2) := by decide +kernel
theorem dX8_signs_130 : decode cX8_signs 130 = .ok (.iinc 6 1, 3) := by decide +kernel
theorem dX8_signs_133 : decode cX8_signs 133 = .ok (.goto (-78), 3) := by decide +kernel
theorem dX8_signs_136 : decode cX8_signs 136 = .ok (.iload_n 3, 1) := by decide +kernel
theorem dX8_signs_137 : decode cX8_signs 137 = .ok (.ifCond .ne 8, 3) := by decide +kernel
theorem dX8_signs_140 : decode cX8_signs 140 = .ok (.iload 4, 2) := by decide +kernel
theorem dX8_signs_142 : decode cX8_signs 142 = .ok (.goto 5, 3) := by decide +kernel
theorem dX8_signs_145 : decode cX8_signs 145 = .ok (.iload 5, 2) := by decide +kernel
theorem dX8_signs_147 : decode cX8_signs 147 = .ok (.ireturn, 1) := by decide +kernel
theorem dX8_feed_0 : decode cX8_feed 0 = .ok (.aload_n 0, 1) := by decide +kernel
theorem dX8_feed_1 : decode cX8_feed 1 = .ok (.getfield 19, 3) := by decide +kernel
theorem dX8_feed_4 : decode cX8_feed 4 = .ok (.getfield 249, 3) := by decide +kernel
theorem dX8_feed_7 : decode cX8_feed 7 = .ok (.bipush 12, 2) := by decide +kernel
theorem dX8_feed_9 : decode cX8_feed 9 = .ok (.iadd, 1) := by decide +kernel
theorem dX8_feed_10 : decode cX8_feed 10 = .ok (.bipush 96, 2) := by decide +kernel
theorem dX8_feed_12 : decode cX8_feed 12 = .ok (.if_icmp .le 6, 3) := by decide +kernel
theorem dX8_feed_15 : decode cX8_feed 15 = .ok (.ldc 250, 2) := by decide +kernel
theorem dX8_feed_17 : decode cX8_feed 17 = .ok (.ireturn, 1) := by decide +kernel
theorem dX8_feed_18 : decode cX8_feed 18 = .ok (.aload_n 0, 1) := by decide +kernel
theorem dX8_feed_19 : decode cX8_feed 19 = .ok (.getfield 19, 3) := by decide +kernel
theorem dX8_feed_22 : decode cX8_feed 22 = .ok (.iload_n 1, 1) := by decide +kernel
theorem dX8_feed_23 : decode cX8_feed 23 = .ok (.invokevirtual 251, 3) := by decide +kernel
theorem dX8_feed_26 : decode cX8_feed 26 = .ok (.aload_n 0, 1) := by decide +kernel
theorem dX8_feed_27 : decode cX8_feed 27 = .ok (.getfield 19, 3) := by decide +kernel
theorem dX8_feed_30 : decode cX8_feed 30 = .ok (.iload_n 2, 1) := by decide +kernel
theorem dX8_feed_31 : decode cX8_feed 31 = .ok (.invokevirtual 251, 3) := by decide +kernel
theorem dX8_feed_34 : decode cX8_feed 34 = .ok (.aload_n 0, 1) := by decide +kernel
theorem dX8_feed_35 : decode cX8_feed 35 = .ok (.getfield 19, 3) := by decide +kernel
theorem dX8_feed_38 : decode cX8_feed 38 = .ok (.iload_n 3, 1) := by decide +kernel
theorem dX8_feed_39 : decode cX8_feed 39 = .ok (.invokevirtual 251, 3) := by decide +kernel
theorem dX8_feed_42 : decode cX8_feed 42 = .ok (.aload_n 0, 1) := by decide +kernel
theorem dX8_feed_43 : decode cX8_feed 43 = .ok (.getfield 19, 3) := by decide +kernel
theorem dX8_feed_46 : decode cX8_feed 46 = .ok (.getfield 249, 3) := by decide +kernel
theorem dX8_feed_49 : decode cX8_feed 49 = .ok (.ireturn, 1) := by decide +kernel
theorem dX8_trim_0 : decode cX8_trim 0 = .ok (.iload_n 1, 1) := by decide +kernel
theorem dX8_trim_1 : decode cX8_trim 1 = .ok (.iconst 0, 1) := by decide +kernel
theorem dX8_trim_2 : decode cX8_trim 2 = .ok (.aload_n 0, 1) := by decide +kernel
theorem dX8_trim_3 : decode cX8_trim 3 = .ok (.getfield 19, 3) := by decide +kernel
theorem dX8_trim_6 : decode cX8_trim 6 = .ok (.getfield 249, 3) := by decide +kernel
theorem dX8_trim_9 : decode cX8_trim 9 = .ok (.invokestatic 77, 3) := by decide +kernel
theorem dX8_trim_12 : decode cX8_trim 12 = .ok (.ifCond .ne 6, 3) := by decide +kernel
theorem dX8_trim_15 : decode cX8_trim 15 = .ok (.ldc 81, 2) := by decide +kernel
theorem dX8_trim_17 : decode cX8_trim 17 = .ok (.ireturn, 1) := by decide +kernel
theorem dX8_trim_18 : decode cX8_trim 18 = .ok (.aload_n 0, 1) := by decide +kernel
theorem dX8_trim_19 : decode cX8_trim 19 = .ok (.getfield 19, 3) := by decide +kernel
theorem dX8_trim_22 : decode cX8_trim 22 = .ok (.iload_n 1, 1) := by decide +kernel
theorem dX8_trim_23 : decode cX8_trim 23 = .ok (.putfield 249, 3) := by decide +kernel
theorem dX8_trim_26 : decode cX8_trim 26 = .ok (.iload_n 1, 1) := by decide +kernel
theorem dX8_trim_27 : decode cX8_trim 27 = .ok (.ireturn, 1) := by decide +kernel
theorem dX8_text_0 : decode cX8_text 0 = .ok (.aload_n 0, 1) := by decide +kernel
theorem dX8_text_1 : decode cX8_text 1 = .ok (.getfield 51, 3) := by decide +kernel
theorem dX8_text_4 : decode cX8_text 4 = .ok (.aload_n 0, 1) := by decide +kernel
theorem dX8_text_5 : decode cX8_text 5 = .ok (.getfield 60, 3) := by decide +kernel
theorem dX8_text_8 : decode cX8_text 8 = .ok (.getfield 254, 3) := by decide +kernel
theorem dX8_text_11 : decode cX8_text 11 = .ok (.bipush 14, 2) := by decide +kernel
theorem dX8_text_13 : decode cX8_text 13 = .ok (.invokestatic 120, 3) := by decide +kernel
theorem dX8_text_16 : decode cX8_text 16 = .ok (.aaload, 1) := by decide +kernel
theorem dX8_text_17 : decode cX8_text 17 = .ok (.astore_n 1, 1) := by decide +kernel
theorem dX8_text_18 : decode cX8_text 18 = .ok (.aload_n 0, 1) := by decide +kernel
theorem dX8_text_19 : decode cX8_text 19 = .ok (.getfield 19, 3) := by decide +kernel
theorem dX8_text_22 : decode cX8_text 22 = .ok (.aload_n 1, 1) := by decide +kernel
theorem dX8_text_23 : decode cX8_text 23 = .ok (.invokevirtual 257, 3) := by decide +kernel
theorem dX8_text_26 : decode cX8_text 26 = .ok (.istore_n 2, 1) := by decide +kernel
theorem dX8_text_27 : decode cX8_text 27 = .ok (.aload_n 0, 1) := by decide +kernel
theorem dX8_text_28 : decode cX8_text 28 = .ok (.getfield 19, 3) := by decide +kernel
theorem dX8_text_31 : decode cX8_text 31 = .ok (.iconst 0, 1) := by decide +kernel
theorem dX8_text_32 : decode cX8_text 32 = .ok (.putfield 249, 3) := by decide +kernel
theorem dX8_text_35 : decode cX8_text 35 = .ok (.iload_n 2, 1) := by decide +kernel
theorem dX8_text_36 : decode cX8_text 36 = .ok (.ifCond .lt 8, 3) := by decide +kernel
theorem dX8_text_39 : decode cX8_text 39 = .ok (.bipush (-100), 2) := by decide +kernel
theorem dX8_text_41 : decode cX8_text 41 = .ok (.iload_n 2, 1) := by decide +kernel
theorem dX8_text_42 : decode cX8_text 42 = .ok (.isub, 1) := by decide +kernel
theorem dX8_text_43 : decode cX8_text 43 = .ok (.ireturn, 1) := by decide +kernel
theorem dX8_text_44 : decode cX8_text 44 = .ok (.aload_n 0, 1) := by decide +kernel
theorem dX8_text_45 : decode cX8_text 45 = .ok (.getfield 60, 3) := by decide +kernel
theorem dX8_text_48 : decode cX8_text 48 = .ok (.getfield 254, 3) := by decide +kernel
theorem dX8_text_51 : decode cX8_text 51 = .ok (.bipush 14, 2) := by decide +kernel
theorem dX8_text_53 : decode cX8_text 53 = .ok (.if_icmp .lt 6, 3) := by decide +kernel
theorem dX8_text_56 : decode cX8_text 56 = .ok (.ldc 250, 2) := by decide +kernel
theorem dX8_text_58 : decode cX8_text 58 = .ok (.ireturn, 1) := by decide +kernel
theorem dX8_text_59 : decode cX8_text 59 = .ok (.aload_n 0, 1) := by decide +kernel
theorem dX8_text_60 : decode cX8_text 60 = .ok (.getfield 60, 3) := by decide +kernel
theorem dX8_text_63 : decode cX8_text 63 = .ok (.getfield 261, 3) := by decide +kernel
theorem dX8_text_66 : decode cX8_text 66 = .ok (.aload_n 1, 1) := by decide +kernel
theorem dX8_text_67 : decode cX8_text 67 = .ok (.getfield 264, 3) := by decide +kernel
theorem dX8_text_70 : decode cX8_text 70 = .ok (.aload_n 0, 1) := by decide +kernel
theorem dX8_text_71 : decode cX8_text 71 = .ok (.getfield 60, 3) := by decide +kernel
theorem dX8_text_74 : decode cX8_text 74 = .ok (.getfield 254, 3) := by decide +kernel
theorem dX8_text_77 : decode cX8_text 77 = .ok (.iastore, 1) := by decide +kernel
theorem dX8_text_78 : decode cX8_text 78 = .ok (.aload_n 0, 1) := by decide +kernel
theorem dX8_text_79 : decode cX8_text 79 = .ok (.getfield 60, 3) := by decide +kernel
theorem dX8_text_82 : decode cX8_text 82 = .ok (.dup, 1) := by decide +kernel
theorem dX8_text_83 : decode cX8_text 83 = .ok (.getfield 254, 3) := by decide +kernel
theorem dX8_text_86 : decode cX8_text 86 = .ok (.dup_x1, 1) := by decide +kernel
theorem dX8_text_87 : decode cX8_text 87 = .ok (.iconst 1, 1) := by decide +kernel
theorem dX8_text_88 : decode cX8_text 88 = .ok (.iadd, 1) := by decide +kernel
theorem dX8_text_89 : decode cX8_text 89 = .ok (.putfield 254, 3) := by decide +kernel
theorem dX8_text_92 : decode cX8_text 92 = .ok (.ireturn, 1) := by decide +kernel
theorem dX8_textTold_0 : decode cX8_textTold 0 = .ok (.iload_n 1, 1) := by decide +kernel
theorem dX8_textTold_1 : decode cX8_textTold 1 = .ok (.iconst 0, 1) := by decide +kernel
theorem dX8_textTold_2 : decode cX8_textTold 2 = .ok (.aload_n 0, 1) := by decide +kernel
theorem dX8_textTold_3 : decode cX8_textTold 3 = .ok (.getfield 60, 3) := by decide +kernel
theorem dX8_textTold_6 : decode cX8_textTold 6 = .ok (.getfield 254, 3) := by decide +kernel
theorem dX8_textTold_9 : decode cX8_textTold 9 = .ok (.iconst 1, 1) := by decide +kernel
theorem dX8_textTold_10 : decode cX8_textTold 10 = .ok (.isub, 1) := by decide +kernel
theorem dX8_textTold_11 : decode cX8_textTold 11 = .ok (.invokestatic 77, 3) := by decide +kernel
theorem dX8_textTold_14 : decode cX8_textTold 14 = .ok (.ifCond .eq 12, 3) := by decide +kernel
theorem dX8_textTold_17 : decode cX8_textTold 17 = .ok (.iload_n 2, 1) := by decide +kernel
theorem dX8_textTold_18 : decode cX8_textTold 18 = .ok (.iconst 0, 1) := by decide +kernel
theorem dX8_textTold_19 : decode cX8_textTold 19 = .ok (.iconst 1, 1) := by decide +kernel
theorem dX8_textTold_20 : decode cX8_textTold 20 = .ok (.invokestatic 77, 3) := by decide +kernel
theorem dX8_textTold_23 : decode cX8_textTold 23 = .ok (.ifCond .ne 6, 3) := by decide +kernel
theorem dX8_textTold_26 : decode cX8_textTold 26 = .ok (.ldc 81, 2) := by decide +kernel
theorem dX8_textTold_28 : decode cX8_textTold 28 = .ok (.ireturn, 1) := by decide +kernel
theorem dX8_textTold_29 : decode cX8_textTold 29 = .ok (.iload_n 2, 1) := by decide +kernel
theorem dX8_textTold_30 : decode cX8_textTold 30 = .ok (.ifCond .ne 15, 3) := by decide +kernel
theorem dX8_textTold_33 : decode cX8_textTold 33 = .ok (.aload_n 0, 1) := by decide +kernel
theorem dX8_textTold_34 : decode cX8_textTold 34 = .ok (.getfield 51, 3) := by decide +kernel
theorem dX8_textTold_37 : decode cX8_textTold 37 = .ok (.iload_n 1, 1) := by decide +kernel
theorem dX8_textTold_38 : decode cX8_textTold 38 = .ok (.aaload, 1) := by decide +kernel
theorem dX8_textTold_39 : decode cX8_textTold 39 = .ok (.getfield 264, 3) := by decide +kernel
theorem dX8_textTold_42 : decode cX8_textTold 42 = .ok (.goto 12, 3) := by decide +kernel
theorem dX8_textTold_45 : decode cX8_textTold 45 = .ok (.aload_n 0, 1) := by decide +kernel
theorem dX8_textTold_46 : decode cX8_textTold 46 = .ok (.getfield 51, 3) := by decide +kernel
theorem dX8_textTold_49 : decode cX8_textTold 49 = .ok (.iload_n 1, 1) := by decide +kernel
theorem dX8_textTold_50 : decode cX8_textTold 50 = .ok (.aaload, 1) := by decide +kernel
theorem dX8_textTold_51 : decode cX8_textTold 51 = .ok (.getfield 267, 3) := by decide +kernel
theorem dX8_textTold_54 : decode cX8_textTold 54 = .ok (.ireturn, 1) := by decide +kernel
theorem dX8_why_0 : decode cX8_why 0 = .ok (.iload_n 1, 1) := by decide +kernel
theorem dX8_why_1 : decode cX8_why 1 = .ok (.iconst 0, 1) := by decide +kernel
theorem dX8_why_2 : decode cX8_why 2 = .ok (.iconst 2, 1) := by decide +kernel
theorem dX8_why_3 : decode cX8_why 3 = .ok (.invokestatic 77, 3) := by decide +kernel
theorem dX8_why_6 : decode cX8_why 6 = .ok (.ifCond .eq 15, 3) := by decide +kernel
theorem dX8_why_9 : decode cX8_why 9 = .ok (.aload_n 0, 1) := by decide +kernel
theorem dX8_why_10 : decode cX8_why 10 = .ok (.getfield 60, 3) := by decide +kernel
theorem dX8_why_13 : decode cX8_why 13 = .ok (.getfield 261, 3) := by decide +kernel
theorem dX8_why_16 : decode cX8_why 16 = .ok (.iload_n 1, 1) := by decide +kernel
theorem dX8_why_17 : decode cX8_why 17 = .ok (.iaload, 1) := by decide +kernel
theorem dX8_why_18 : decode cX8_why 18 = .ok (.goto 5, 3) := by decide +kernel
theorem dX8_why_21 : decode cX8_why 21 = .ok (.ldc 81, 2) := by decide +kernel
theorem dX8_why_23 : decode cX8_why 23 = .ok (.ireturn, 1) := by decide +kernel
theorem dX8_sheet_0 : decode cX8_sheet 0 = .ok (.iload_n 1, 1) := by decide +kernel
theorem dX8_sheet_1 : decode cX8_sheet 1 = .ok (.invokestatic 238, 3) := by decide +kernel
theorem dX8_sheet_4 : decode cX8_sheet 4 = .ok (.ifCond .eq 12, 3) := by decide +kernel
theorem dX8_sheet_7 : decode cX8_sheet 7 = .ok (.iload_n 2, 1) := by decide +kernel
theorem dX8_sheet_8 : decode cX8_sheet 8 = .ok (.iconst (-1), 1) := by decide +kernel
theorem dX8_sheet_9 : decode cX8_sheet 9 = .ok (.iconst 1, 1) := by decide +kernel
theorem dX8_sheet_10 : decode cX8_sheet 10 = .ok (.invokestatic 77, 3) := by decide +kernel
theorem dX8_sheet_13 : decode cX8_sheet 13 = .ok (.ifCond .ne 6, 3) := by decide +kernel
theorem dX8_sheet_16 : decode cX8_sheet 16 = .ok (.ldc 81, 2) := by decide +kernel
theorem dX8_sheet_18 : decode cX8_sheet 18 = .ok (.ireturn, 1) := by decide +kernel
theorem dX8_sheet_19 : decode cX8_sheet 19 = .ok (.iload_n 2, 1) := by decide +kernel
theorem dX8_sheet_20 : decode cX8_sheet 20 = .ok (.iconst (-1), 1) := by decide +kernel
theorem dX8_sheet_21 : decode cX8_sheet 21 = .ok (.if_icmp .ne 16, 3) := by decide +kernel
theorem dX8_sheet_24 : decode cX8_sheet 24 = .ok (.aload_n 0, 1) := by decide +kernel
theorem dX8_sheet_25 : decode cX8_sheet 25 = .ok (.getfield 25, 3) := by decide +kernel
theorem dX8_sheet_28 : decode cX8_sheet 28 = .ok (.iload_n 1, 1) := by decide +kernel
theorem dX8_sheet_29 : decode cX8_sheet 29 = .ok (.aaload, 1) := by decide +kernel
theorem dX8_sheet_30 : decode cX8_sheet 30 = .ok (.iconst (-1), 1) := by decide +kernel
theorem dX8_sheet_31 : decode cX8_sheet 31 = .ok (.iconst 0, 1) := by decide +kernel
theorem dX8_sheet_32 : decode cX8_sheet 32 = .ok (.invokevirtual 270, 3) := by decide +kernel
theorem dX8_sheet_35 : decode cX8_sheet 35 = .ok (.iconst 0, 1) := by decide +kernel
theorem dX8_sheet_36 : decode cX8_sheet 36 = .ok (.ireturn, 1) := by decide +kernel
theorem dX8_sheet_37 : decode cX8_sheet 37 = .ok (.iload_n 3, 1) := by decide +kernel
theorem dX8_sheet_38 : decode cX8_sheet 38 = .ok (.bipush 24, 2) := by decide +kernel
theorem dX8_sheet_40 : decode cX8_sheet 40 = .ok (.if_icmp .le 6, 3) := by decide +kernel
theorem dX8_sheet_43 : decode cX8_sheet 43 = .ok (.ldc 81, 2) := by decide +kernel
theorem dX8_sheet_45 : decode cX8_sheet 45 = .ok (.ireturn, 1) := by decide +kernel
theorem dX8_sheet_46 : decode cX8_sheet 46 = .ok (.iload_n 3, 1) := by decide +kernel
theorem dX8_sheet_47 : decode cX8_sheet 47 = .ok (.ifCond .ge 7, 3) := by decide +kernel
theorem dX8_sheet_50 : decode cX8_sheet 50 = .ok (.ldc_w 274, 3) := by decide +kernel
theorem dX8_sheet_53 : decode cX8_sheet 53 = .ok (.ireturn, 1) := by decide +kernel
theorem dX8_sheet_54 : decode cX8_sheet 54 = .ok (.aload_n 0, 1) := by decide +kernel
theorem dX8_sheet_55 : decode cX8_sheet 55 = .ok (.getfield 25, 3) := by decide +kernel
theorem dX8_sheet_58 : decode cX8_sheet 58 = .ok (.iload_n 1, 1) := by decide +kernel
theorem dX8_sheet_59 : decode cX8_sheet 59 = .ok (.aaload, 1) := by decide +kernel
theorem dX8_sheet_60 : decode cX8_sheet 60 = .ok (.iload_n 2, 1) := by decide +kernel
theorem dX8_sheet_61 : decode cX8_sheet 61 = .ok (.iload_n 3, 1) := by decide +kernel
theorem dX8_sheet_62 : decode cX8_sheet 62 = .ok (.invokevirtual 270, 3) := by decide +kernel
theorem dX8_sheet_65 : decode cX8_sheet 65 = .ok (.iload_n 3, 1) := by decide +kernel
theorem dX8_sheet_66 : decode cX8_sheet 66 = .ok (.ireturn, 1) := by decide +kernel
theorem dX8_mark_0 : decode cX8_mark 0 = .ok (.iload_n 1, 1) := by decide +kernel
theorem dX8_mark_1 : decode cX8_mark 1 = .ok (.invokestatic 238, 3) := by decide +kernel
theorem dX8_mark_4 : decode cX8_mark 4 = .ok (.ifCond .ne 6, 3) := by decide +kernel
theorem dX8_mark_7 : decode cX8_mark 7 = .ok (.ldc 81, 2) := by decide +kernel
theorem dX8_mark_9 : decode cX8_mark 9 = .ok (.ireturn, 1) := by decide +kernel
theorem dX8_mark_10 : decode cX8_mark 10 = .ok (.aload_n 0, 1) := by decide +kernel
theorem dX8_mark_11 : decode cX8_mark 11 = .ok (.getfield 25, 3) := by decide +kernel
theorem dX8_mark_14 : decode cX8_mark 14 = .ok (.iload_n 1, 1) := by decide +kernel
theorem dX8_mark_15 : decode cX8_mark 15 = .ok (.aaload, 1) := by decide +kernel
theorem dX8_mark_16 : decode cX8_mark 16 = .ok (.astore 4, 2) := by decide +kernel
theorem dX8_mark_18 : decode cX8_mark 18 = .ok (.aload 4, 2) := by decide +kernel
theorem dX8_mark_20 : decode cX8_mark 20 = .ok (.getfield 241, 3) := by decide +kernel
theorem dX8_mark_23 : decode cX8_mark 23 = .ok (.iconst (-1), 1) := by decide +kernel
theorem dX8_mark_24 : decode cX8_mark 24 = .ok (.if_icmp .ne 6, 3) := by decide +kernel
theorem dX8_mark_27 : decode cX8_mark 27 = .ok (.ldc 244, 2) := by decide +kernel
theorem dX8_mark_29 : decode cX8_mark 29 = .ok (.ireturn, 1) := by decide +kernel
theorem dX8_mark_30 : decode cX8_mark 30 = .ok (.aload 4, 2) := by decide +kernel
theorem dX8_mark_32 : decode cX8_mark 32 = .ok (.iload_n 2, 1) := by decide +kernel
theorem dX8_mark_33 : decode cX8_mark 33 = .ok (.invokevirtual 275, 3) := by decide +kernel
theorem dX8_mark_36 : decode cX8_mark 36 = .ok (.ifCond .ne 7, 3) := by decide +kernel
theorem dX8_mark_39 : decode cX8_mark 39 = .ok (.ldc_w 276, 3) := by decide +kernel
theorem dX8_mark_42 : decode cX8_mark 42 = .ok (.ireturn, 1) := by decide +kernel
theorem dX8_mark_43 : decode cX8_mark 43 = .ok (.aload 4, 2) := by decide +kernel
theorem dX8_mark_45 : decode cX8_mark 45 = .ok (.getfield 241, 3) := by decide +kernel
theorem dX8_mark_48 : decode cX8_mark 48 = .ok (.ifCond .ne 23, 3) := by decide +kernel
theorem dX8_mark_51 : decode cX8_mark 51 = .ok (.iload_n 3, 1) := by decide +kernel
theorem dX8_mark_52 : decode cX8_mark 52 = .ok (.ldc 222, 2) := by decide +kernel
theorem dX8_mark_54 : decode cX8_mark 54 = .ok (.if_icmp .ne 6, 3) := by decide +kernel
theorem dX8_mark_57 : decode cX8_mark 57 = .ok (.ldc 175, 2) := by decide +kernel
theorem dX8_mark_59 : decode cX8_mark 59 = .ok (.ireturn, 1) := by decide +kernel
theorem dX8_mark_60 : decode cX8_mark 60 = .ok (.aload 4, 2) := by decide +kernel
theorem dX8_mark_62 : decode cX8_mark 62 = .ok (.getfield 277, 3) := by decide +kernel
theorem dX8_mark_65 : decode cX8_mark 65 = .ok (.iload_n 2, 1) := by decide +kernel
theorem dX8_mark_66 : decode cX8_mark 66 = .ok (.iload_n 3, 1) := by decide +kernel
theorem dX8_mark_67 : decode cX8_mark 67 = .ok (.i2s, 1) := by decide +kernel
theorem dX8_mark_68 : decode cX8_mark 68 = .ok (.iastore, 1) := by decide +kernel
theorem dX8_mark_69 : decode cX8_mark 69 = .ok (.iconst 1, 1) := by decide +kernel
theorem dX8_mark_70 : decode cX8_mark 70 = .ok (.ireturn, 1) := by decide +kernel
theorem dX8_mark_71 : decode cX8_mark 71 = .ok (.iload_n 3, 1) := by decide +kernel
theorem dX8_mark_72 : decode cX8_mark 72 = .ok (.ldc 222, 2) := by decide +kernel
theorem dX8_mark_74 : decode cX8_mark 74 = .ok (.if_icmp .eq 19, 3) := by decide +kernel
theorem dX8_mark_77 : decode cX8_mark 77 = .ok (.iload_n 3, 1) := by decide +kernel
theorem dX8_mark_78 : decode cX8_mark 78 = .ok (.ldc_w 280, 3) := by decide +kernel
theorem dX8_mark_81 : decode cX8_mark 81 = .ok (.ldc_w 281, 3) := by decide +kernel
theorem dX8_mark_84 : decode cX8_mark 84 = .ok (.invokestatic 77, 3) := by decide +kernel
theorem dX8_mark_87 : decode cX8_mark 87 = .ok (.ifCond .ne 6, 3) := by decide +kernel
theorem dX8_mark_90 : decode cX8_mark 90 = .ok (.ldc 81, 2) := by decide +kernel
theorem dX8_mark_92 : decode cX8_mark 92 = .ok (.ireturn, 1) := by decide +kernel
theorem dX8_mark_93 : decode cX8_mark 93 = .ok (.aload 4, 2) := by decide +kernel
theorem dX8_mark_95 : decode cX8_mark 95 = .ok (.getfield 277, 3) := by decide +kernel
theorem dX8_mark_98 : decode cX8_mark 98 = .ok (.iload_n 2, 1) := by decide +kernel
theorem dX8_mark_99 : decode cX8_mark 99 = .ok (.iload_n 3, 1) := by decide +kernel
theorem dX8_mark_100 : decode cX8_mark 100 = .ok (.iastore, 1) := by decide +kernel
theorem dX8_mark_101 : decode cX8_mark 101 = .ok (.iconst 1, 1) := by decide +kernel
theorem dX8_mark_102 : decode cX8_mark 102 = .ok (.ireturn, 1) := by decide +kernel
theorem dX8_pour_0 : decode cX8_pour 0 = .ok (.iload_n 1, 1) := by decide +kernel
theorem dX8_pour_1 : decode cX8_pour 1 = .ok (.invokestatic 238, 3) := by decide +kernel
theorem dX8_pour_4 : decode cX8_pour 4 = .ok (.ifCond .ne 6, 3) := by decide +kernel
theorem dX8_pour_7 : decode cX8_pour 7 = .ok (.ldc 81, 2) := by decide +kernel
theorem dX8_pour_9 : decode cX8_pour 9 = .ok (.ireturn, 1) := by decide +kernel
theorem dX8_pour_10 : decode cX8_pour 10 = .ok (.aload_n 0, 1) := by decide +kernel
theorem dX8_pour_11 : decode cX8_pour 11 = .ok (.getfield 25, 3) := by decide +kernel
theorem dX8_pour_14 : decode cX8_pour 14 = .ok (.iload_n 1, 1) := by decide +kernel
theorem dX8_pour_15 : decode cX8_pour 15 = .ok (.aaload, 1) := by decide +kernel
theorem dX8_pour_16 : decode cX8_pour 16 = .ok (.astore_n 2, 1) := by decide +kernel
theorem dX8_pour_17 : decode cX8_pour 17 = .ok (.aload_n 2, 1) := by decide +kernel
theorem dX8_pour_18 : decode cX8_pour 18 = .ok (.getfield 241, 3) := by decide +kernel
theorem dX8_pour_21 : decode cX8_pour 21 = .ok (.iconst (-1), 1) := by decide +kernel
theorem dX8_pour_22 : decode cX8_pour 22 = .ok (.if_icmp .ne 6, 3) := by decide +kernel
theorem dX8_pour_25 : decode cX8_pour 25 = .ok (.ldc 244, 2) := by decide +kernel
theorem dX8_pour_27 : decode cX8_pour 27 = .ok (.ireturn, 1) := by decide +kernel
theorem dX8_pour_28 : decode cX8_pour 28 = .ok (.iconst 0, 1) := by decide +kernel
theorem dX8_pour_29 : decode cX8_pour 29 = .ok (.istore_n 3, 1) := by decide +kernel
theorem dX8_pour_30 : decode cX8_pour 30 = .ok (.iconst 0, 1) := by decide +kernel
theorem dX8_pour_31 : decode cX8_pour 31 = .ok (.istore 4, 2) := by decide +kernel
theorem dX8_pour_33 : decode cX8_pour 33 = .ok (.iload 4, 2) := by decide +kernel
theorem dX8_pour_35 : decode cX8_pour 35 = .ok (.aload_n 0, 1) := by decide +kernel
theorem dX8_pour_36 : decode cX8_pour 36 = .ok (.getfield 60, 3) := by decide +kernel
theorem dX8_pour_39 : decode cX8_pour 39 = .ok (.getfield 82, 3) := by decide +kernel
theorem dX8_pour_42 : decode cX8_pour 42 = .ok (.getfield 117, 3) := by decide +kernel
theorem dX8_pour_45 : decode cX8_pour 45 = .ok (.if_icmp .ge 81, 3) := by decide +kernel
theorem dX8_pour_48 : decode cX8_pour 48 = .ok (.iload 4, 2) := by decide +kernel
theorem dX8_pour_50 : decode cX8_pour 50 = .ok (.aload_n 2, 1) := by decide +kernel
theorem dX8_pour_51 : decode cX8_pour 51 = .ok (.getfield 282, 3) := by decide +kernel
theorem dX8_pour_54 : decode cX8_pour 54 = .ok (.if_icmp .ge 72, 3) := by decide +kernel
theorem dX8_pour_57 : decode cX8_pour 57 = .ok (.aload_n 2, 1) := by decide +kernel
theorem dX8_pour_58 : decode cX8_pour 58 = .ok (.getfield 277, 3) := by decide +kernel
theorem dX8_pour_61 : decode cX8_pour 61 = .ok (.iload 4, 2) := by decide +kernel
theorem dX8_pour_63 : decode cX8_pour 63 = .ok (.iaload, 1) := by decide +kernel
theorem dX8_pour_64 : decode cX8_pour 64 = .ok (.iconst 0, 1) := by decide +kernel
theorem dX8_pour_65 : decode cX8_pour 65 = .ok (.bipush 99, 2) := by decide +kernel
theorem dX8_pour_67 : decode cX8_pour 67 = .ok (.invokestatic 283, 3) := by decide +kernel
theorem dX8_pour_70 : decode cX8_pour 70 = .ok (.istore 5, 2) := by decide +kernel
theorem dX8_pour_72 : decode cX8_pour 72 = .ok (.aload_n 2, 1) := by decide +kernel
theorem dX8_pour_73 : decode cX8_pour 73 = .ok (.getfield 277, 3) := by decide +kernel
theorem dX8_pour_76 : decode cX8_pour 76 = .ok (.iload 4, 2) := by decide +kernel
theorem dX8_pour_78 : decode cX8_pour 78 = .ok (.iaload, 1) := by decide +kernel
theorem dX8_pour_79 : decode cX8_pour 79 = .ok (.ldc 222, 2) := by decide +kernel
theorem dX8_pour_81 : decode cX8_pour 81 = .ok (.if_icmp .eq 39, 3) := by decide +kernel
theorem dX8_pour_84 : decode cX8_pour 84 = .ok (.iload 5, 2) := by decide +kernel
theorem dX8_pour_86 : decode cX8_pour 86 = .ok (.aload_n 0, 1) := by decide +kernel
theorem dX8_pour_87 : decode cX8_pour 87 = .ok (.getfield 60, 3) := by decide +kernel
theorem dX8_pour_90 : decode cX8_pour 90 = .ok (.getfield 82, 3) := by decide +kernel
theorem dX8_pour_93 : decode cX8_pour 93 = .ok (.getfield 286, 3) := by decide +kernel
theorem dX8_pour_96 : decode cX8_pour 96 = .ok (.iload 4, 2) := by decide +kernel
theorem dX8_pour_98 : decode cX8_pour 98 = .ok (.iaload, 1) := by decide +kernel
theorem dX8_pour_99 : decode cX8_pour 99 = .ok (.if_icmp .eq 21, 3) := by decide +kernel
theorem dX8_pour_102 : decode cX8_pour 102 = .ok (.aload_n 0, 1) := by decide +kernel
theorem dX8_pour_103 : decode cX8_pour 103 = .ok (.getfield 60, 3) := by decide +kernel
theorem dX8_pour_106 : decode cX8_pour 106 = .ok (.getfield 82, 3) := by decide +kernel
theorem dX8_pour_109 : decode cX8_pour 109 = .ok (.getfield 286, 3) := by decide +kernel
theorem dX8_pour_112 : decode cX8_pour 112 = .ok (.iload 4, 2) := by decide +kernel
theorem dX8_pour_114 : decode cX8_pour 114 = .ok (.iload 5, 2) := by decide +kernel
theorem dX8_pour_116 : decode cX8_pour 116 = .ok (.iastore, 1) := by decide +kernel
theorem dX8_pour_117 : decode cX8_pour 117 = .ok (.iinc 3 1, 3) := by decide +kernel
theorem dX8_pour_120 : decode cX8_pour 120 = .ok (.iinc 4 1, 3) := by decide +kernel
theorem dX8_pour_123 : decode cX8_pour 123 = .ok (.goto (-90), 3) := by decide +kernel
theorem dX8_pour_126 : decode cX8_pour 126 = .ok (.iload_n 3, 1) := by decide +kernel
theorem dX8_pour_127 : decode cX8_pour 127 = .ok (.ireturn, 1) := by decide +kernel
theorem dX8_reads_0 : decode cX8_reads 0 = .ok (.iload_n 1, 1) := by decide +kernel
theorem dX8_reads_1 : decode cX8_reads 1 = .ok (.invokestatic 238, 3) := by decide +kernel
theorem dX8_reads_4 : decode cX8_reads 4 = .ok (.ifCond .ne 6, 3) := by decide +kernel
theorem dX8_reads_7 : decode cX8_reads 7 = .ok (.ldc 81, 2) := by decide +kernel
theorem dX8_reads_9 : decode cX8_reads 9 = .ok (.ireturn, 1) := by decide +kernel
theorem dX8_reads_10 : decode cX8_reads 10 = .ok (.aload_n 0, 1) := by decide +kernel
theorem dX8_reads_11 : decode cX8_reads 11 = .ok (.getfield 25, 3) := by decide +kernel
theorem dX8_reads_14 : decode cX8_reads 14 = .ok (.iload_n 1, 1) := by decide +kernel
theorem dX8_reads_15 : decode cX8_reads 15 = .ok (.aaload, 1) := by decide +kernel
theorem dX8_reads_16 : decode cX8_reads 16 = .ok (.astore_n 2, 1) := by decide +kernel
theorem dX8_reads_17 : decode cX8_reads 17 = .ok (.aload_n 2, 1) := by decide +kernel
theorem dX8_reads_18 : decode cX8_reads 18 = .ok (.getfield 241, 3) := by decide +kernel
theorem dX8_reads_21 : decode cX8_reads 21 = .ok (.iconst (-1), 1) := by decide +kernel
theorem dX8_reads_22 : decode cX8_reads 22 = .ok (.if_icmp .ne 6, 3) := by decide +kernel
theorem dX8_reads_25 : decode cX8_reads 25 = .ok (.ldc 244, 2) := by decide +kernel
theorem dX8_reads_27 : decode cX8_reads 27 = .ok (.ireturn, 1) := by decide +kernel
theorem dX8_reads_28 : decode cX8_reads 28 = .ok (.aload_n 0, 1) := by decide +kernel
theorem dX8_reads_29 : decode cX8_reads 29 = .ok (.getfield 60, 3) := by decide +kernel
theorem dX8_reads_32 : decode cX8_reads 32 = .ok (.invokevirtual 100, 3) := by decide +kernel
theorem dX8_reads_35 : decode cX8_reads 35 = .ok (.iconst 0, 1) := by decide +kernel
theorem dX8_reads_36 : decode cX8_reads 36 = .ok (.istore_n 3, 1) := by decide +kernel
theorem dX8_reads_37 : decode cX8_reads 37 = .ok (.iload_n 3, 1) := by decide +kernel
theorem dX8_reads_38 : decode cX8_reads 38 = .ok (.aload_n 2, 1) := by decide +kernel
theorem dX8_reads_39 : decode cX8_reads 39 = .ok (.getfield 282, 3) := by decide +kernel
theorem dX8_reads_42 : decode cX8_reads 42 = .ok (.if_icmp .ge 66, 3) := by decide +kernel
theorem dX8_reads_45 : decode cX8_reads 45 = .ok (.aload_n 0, 1) := by decide +kernel
theorem dX8_reads_46 : decode cX8_reads 46 = .ok (.getfield 60, 3) := by decide +kernel
theorem dX8_reads_49 : decode cX8_reads 49 = .ok (.getfield 82, 3) := by decide +kernel
theorem dX8_reads_52 : decode cX8_reads 52 = .ok (.iload_n 3, 1) := by decide +kernel
theorem dX8_reads_53 : decode cX8_reads 53 = .ok (.invokevirtual 92, 3) := by decide +kernel
theorem dX8_reads_56 : decode cX8_reads 56 = .ok (.ifCond .eq 25, 3) := by decide +kernel
theorem dX8_reads_59 : decode cX8_reads 59 = .ok (.aload_n 2, 1) := by decide +kernel
theorem dX8_reads_60 : decode cX8_reads 60 = .ok (.getfield 277, 3) := by decide +kernel
theorem dX8_reads_63 : decode cX8_reads 63 = .ok (.iload_n 3, 1) := by decide +kernel
theorem dX8_reads_64 : decode cX8_reads 64 = .ok (.iaload, 1) := by decide +kernel
theorem dX8_reads_65 : decode cX8_reads 65 = .ok (.aload_n 0, 1) := by decide +kernel
theorem dX8_reads_66 : decode cX8_reads 66 = .ok (.getfield 60, 3) := by decide +kernel
theorem dX8_reads_69 : decode cX8_reads 69 = .ok (.getfield 103, 3) := by decide +kernel
theorem dX8_reads_72 : decode cX8_reads 72 = .ok (.iload_n 3, 1) := by decide +kernel
theorem dX8_reads_73 : decode cX8_reads 73 = .ok (.iaload, 1) := by decide +kernel
theorem dX8_reads_74 : decode cX8_reads 74 = .ok (.if_icmp .ne 7, 3) := by decide +kernel
theorem dX8_reads_77 : decode cX8_reads 77 = .ok (.iconst 1, 1) := by decide +kernel
theorem dX8_reads_78 : decode cX8_reads 78 = .ok (.goto 4, 3) := by decide +kernel
theorem dX8_reads_81 : decode cX8_reads 81 = .ok (.iconst 0, 1) := by decide +kernel
theorem dX8_reads_82 : decode cX8_reads 82 = .ok (.istore 4, 2) := by decide +kernel
theorem dX8_reads_84 : decode cX8_reads 84 = .ok (.aload_n 2, 1) := by decide +kernel
theorem dX8_reads_85 : decode cX8_reads 85 = .ok (.getfield 277, 3) := by decide +kernel
theorem dX8_reads_88 : decode cX8_reads 88 = .ok (.iload_n 3, 1) := by decide +kernel
theorem dX8_reads_89 : decode cX8_reads 89 = .ok (.iaload, 1) := by decide +kernel
theorem dX8_reads_90 : decode cX8_reads 90 = .ok (.ldc 222, 2) := by decide +kernel
theorem dX8_reads_92 : decode cX8_reads 92 = .ok (.if_icmp .eq 10, 3) := by decide +kernel
theorem dX8_reads_95 : decode cX8_reads 95 = .ok (.iload 4, 2) := by decide +kernel
theorem dX8_reads_97 : decode cX8_reads 97 = .ok (.ifCond .ne 5, 3) := by decide +kernel
theorem dX8_reads_100 : decode cX8_reads 100 = .ok (.iload_n 3, 1) := by decide +kernel
theorem dX8_reads_101 : decode cX8_reads 101 = .ok (.ireturn, 1) := by decide +kernel
theorem dX8_reads_102 : decode cX8_reads 102 = .ok (.iinc 3 1, 3) := by decide +kernel
theorem dX8_reads_105 : decode cX8_reads 105 = .ok (.goto (-68), 3) := by decide +kernel
theorem dX8_reads_108 : decode cX8_reads 108 = .ok (.ldc 222, 2) := by decide +kernel
theorem dX8_reads_110 : decode cX8_reads 110 = .ok (.ireturn, 1) := by decide +kernel
theorem dX8_copy_0 : decode cX8_copy 0 = .ok (.iload_n 1, 1) := by decide +kernel
theorem dX8_copy_1 : decode cX8_copy 1 = .ok (.invokestatic 238, 3) := by decide +kernel
theorem dX8_copy_4 : decode cX8_copy 4 = .ok (.ifCond .eq 10, 3) := by decide +kernel
theorem dX8_copy_7 : decode cX8_copy 7 = .ok (.iload_n 3, 1) := by decide +kernel
theorem dX8_copy_8 : decode cX8_copy 8 = .ok (.invokestatic 238, 3) := by decide +kernel
theorem dX8_copy_11 : decode cX8_copy 11 = .ok (.ifCond .ne 6, 3) := by decide +kernel
theorem dX8_copy_14 : decode cX8_copy 14 = .ok (.ldc 81, 2) := by decide +kernel
theorem dX8_copy_16 : decode cX8_copy 16 = .ok (.ireturn, 1) := by decide +kernel
theorem dX8_copy_17 : decode cX8_copy 17 = .ok (.aload_n 0, 1) := by decide +kernel
theorem dX8_copy_18 : decode cX8_copy 18 = .ok (.getfield 25, 3) := by decide +kernel
theorem dX8_copy_21 : decode cX8_copy 21 = .ok (.iload_n 1, 1) := by decide +kernel
theorem dX8_copy_22 : decode cX8_copy 22 = .ok (.aaload, 1) := by decide +kernel
theorem dX8_copy_23 : decode cX8_copy 23 = .ok (.astore 6, 2) := by decide +kernel
theorem dX8_copy_25 : decode cX8_copy 25 = .ok (.aload_n 0, 1) := by decide +kernel
theorem dX8_copy_26 : decode cX8_copy 26 = .ok (.getfield 25, 3) := by decide +kernel
theorem dX8_copy_29 : decode cX8_copy 29 = .ok (.iload_n 3, 1) := by decide +kernel
theorem dX8_copy_30 : decode cX8_copy 30 = .ok (.aaload, 1) := by decide +kernel
theorem dX8_copy_31 : decode cX8_copy 31 = .ok (.astore 7, 2) := by decide +kernel
theorem dX8_copy_33 : decode cX8_copy 33 = .ok (.aload 6, 2) := by decide +kernel
theorem dX8_copy_35 : decode cX8_copy 35 = .ok (.getfield 241, 3) := by decide +kernel
theorem dX8_copy_38 : decode cX8_copy 38 = .ok (.iconst (-1), 1) := by decide +kernel
theorem dX8_copy_39 : decode cX8_copy 39 = .ok (.if_icmp .eq 12, 3) := by decide +kernel
theorem dX8_copy_42 : decode cX8_copy 42 = .ok (.aload 7, 2) := by decide +kernel
theorem dX8_copy_44 : decode cX8_copy 44 = .ok (.getfield 241, 3) := by decide +kernel
theorem dX8_copy_47 : decode cX8_copy 47 = .ok (.iconst (-1), 1) := by decide +kernel
theorem dX8_copy_48 : decode cX8_copy 48 = .ok (.if_icmp .ne 6, 3) := by decide +kernel
theorem dX8_copy_51 : decode cX8_copy 51 = .ok (.ldc 244, 2) := by decide +kernel
theorem dX8_copy_53 : decode cX8_copy 53 = .ok (.ireturn, 1) := by decide +kernel
theorem dX8_copy_54 : decode cX8_copy 54 = .ok (.aload 6, 2) := by decide +kernel
theorem dX8_copy_56 : decode cX8_copy 56 = .ok (.getfield 241, 3) := by decide +kernel
theorem dX8_copy_59 : decode cX8_copy 59 = .ok (.aload 7, 2) := by decide +kernel
theorem dX8_copy_61 : decode cX8_copy 61 = .ok (.getfield 241, 3) := by decide +kernel
theorem dX8_copy_64 : decode cX8_copy 64 = .ok (.if_icmp .eq 6, 3) := by decide +kernel
theorem dX8_copy_67 : decode cX8_copy 67 = .ok (.ldc 175, 2) := by decide +kernel
theorem dX8_copy_69 : decode cX8_copy 69 = .ok (.ireturn, 1) := by decide +kernel
theorem dX8_copy_70 : decode cX8_copy 70 = .ok (.aload 6, 2) := by decide +kernel
theorem dX8_copy_72 : decode cX8_copy 72 = .ok (.iload_n 2, 1) := by decide +kernel
theorem dX8_copy_73 : decode cX8_copy 73 = .ok (.iload 5, 2) := by decide +kernel
theorem dX8_copy_75 : decode cX8_copy 75 = .ok (.invokevirtual 289, 3) := by decide +kernel
theorem dX8_copy_78 : decode cX8_copy 78 = .ok (.ifCond .eq 15, 3) := by decide +kernel
theorem dX8_copy_81 : decode cX8_copy 81 = .ok (.aload 7, 2) := by decide +kernel
theorem dX8_copy_83 : decode cX8_copy 83 = .ok (.iload 4, 2) := by decide +kernel
theorem dX8_copy_85 : decode cX8_copy 85 = .ok (.iload 5, 2) := by decide +kernel
theorem dX8_copy_87 : decode cX8_copy 87 = .ok (.invokevirtual 289, 3) := by decide +kernel
theorem dX8_copy_90 : decode cX8_copy 90 = .ok (.ifCond .ne 7, 3) := by decide +kernel
theorem dX8_copy_93 : decode cX8_copy 93 = .ok (.ldc_w 276, 3) := by decide +kernel
theorem dX8_copy_96 : decode cX8_copy 96 = .ok (.ireturn, 1) := by decide +kernel
theorem dX8_copy_97 : decode cX8_copy 97 = .ok (.aload 6, 2) := by decide +kernel
theorem dX8_copy_99 : decode cX8_copy 99 = .ok (.getfield 277, 3) := by decide +kernel
theorem dX8_copy_102 : decode cX8_copy 102 = .ok (.iload_n 2, 1) := by decide +kernel
theorem dX8_copy_103 : decode cX8_copy 103 = .ok (.aload 7, 2) := by decide +kernel
theorem dX8_copy_105 : decode cX8_copy 105 = .ok (.getfield 277, 3) := by decide +kernel
theorem dX8_copy_108 : decode cX8_copy 108 = .ok (.iload 4, 2) := by decide +kernel
theorem dX8_copy_110 : decode cX8_copy 110 = .ok (.iload 5, 2) := by decide +kernel
theorem dX8_copy_112 : decode cX8_copy 112 = .ok (.invokestatic 292, 3) := by decide +kernel
theorem dX8_copy_115 : decode cX8_copy 115 = .ok (.iload 5, 2) := by decide +kernel
theorem dX8_copy_117 : decode cX8_copy 117 = .ok (.ireturn, 1) := by decide +kernel
theorem dX8_lay_0 : decode cX8_lay 0 = .ok (.iload_n 1, 1) := by decide +kernel
theorem dX8_lay_1 : decode cX8_lay 1 = .ok (.invokestatic 298, 3) := by decide +kernel
theorem dX8_lay_4 : decode cX8_lay 4 = .ok (.ifCond .eq 12, 3) := by decide +kernel
theorem dX8_lay_7 : decode cX8_lay 7 = .ok (.iload_n 2, 1) := by decide +kernel
theorem dX8_lay_8 : decode cX8_lay 8 = .ok (.iconst 0, 1) := by decide +kernel
theorem dX8_lay_9 : decode cX8_lay 9 = .ok (.iconst 3, 1) := by decide +kernel
theorem dX8_lay_10 : decode cX8_lay 10 = .ok (.invokestatic 77, 3) := by decide +kernel
theorem dX8_lay_13 : decode cX8_lay 13 = .ok (.ifCond .ne 6, 3) := by decide +kernel
theorem dX8_lay_16 : decode cX8_lay 16 = .ok (.ldc 81, 2) := by decide +kernel
theorem dX8_lay_18 : decode cX8_lay 18 = .ok (.ireturn, 1) := by decide +kernel
theorem dX8_lay_19 : decode cX8_lay 19 = .ok (.iload_n 2, 1) := by decide +kernel
theorem dX8_lay_20 : decode cX8_lay 20 = .ok (.iconst 1, 1) := by decide +kernel
theorem dX8_lay_21 : decode cX8_lay 21 = .ok (.if_icmp .ne 14, 3) := by decide +kernel
theorem dX8_lay_24 : decode cX8_lay 24 = .ok (.aload_n 0, 1) := by decide +kernel
theorem dX8_lay_25 : decode cX8_lay 25 = .ok (.getfield 60, 3) := by decide +kernel
theorem dX8_lay_28 : decode cX8_lay 28 = .ok (.iload_n 3, 1) := by decide +kernel
theorem dX8_lay_29 : decode cX8_lay 29 = .ok (.invokevirtual 140, 3) := by decide +kernel
theorem dX8_lay_32 : decode cX8_lay 32 = .ok (.ifCond .eq 15, 3) := by decide +kernel
theorem dX8_lay_35 : decode cX8_lay 35 = .ok (.iload_n 2, 1) := by decide +kernel
theorem dX8_lay_36 : decode cX8_lay 36 = .ok (.iconst 2, 1) := by decide +kernel
theorem dX8_lay_37 : decode cX8_lay 37 = .ok (.if_icmp .ne 13, 3) := by decide +kernel
theorem dX8_lay_40 : decode cX8_lay 40 = .ok (.iload_n 3, 1) := by decide +kernel
theorem dX8_lay_41 : decode cX8_lay 41 = .ok (.invokestatic 238, 3) := by decide +kernel
theorem dX8_lay_44 : decode cX8_lay 44 = .ok (.ifCond .ne 6, 3) := by decide +kernel
theorem dX8_lay_47 : decode cX8_lay 47 = .ok (.ldc 81, 2) := by decide +kernel
theorem dX8_lay_49 : decode cX8_lay 49 = .ok (.ireturn, 1) := by decide +kernel
theorem dX8_lay_50 : decode cX8_lay 50 = .ok (.iload_n 2, 1) := by decide +kernel
theorem dX8_lay_51 : decode cX8_lay 51 = .ok (.iconst 2, 1) := by decide +kernel
theorem dX8_lay_52 : decode cX8_lay 52 = .ok (.if_icmp .ne 19, 3) := by decide +kernel
theorem dX8_lay_55 : decode cX8_lay 55 = .ok (.aload_n 0, 1) := by decide +kernel
theorem dX8_lay_56 : decode cX8_lay 56 = .ok (.getfield 25, 3) := by decide +kernel
theorem dX8_lay_59 : decode cX8_lay 59 = .ok (.iload_n 3, 1) := by decide +kernel
theorem dX8_lay_60 : decode cX8_lay 60 = .ok (.aaload, 1) := by decide +kernel
theorem dX8_lay_61 : decode cX8_lay 61 = .ok (.getfield 241, 3) := by decide +kernel
theorem dX8_lay_64 : decode cX8_lay 64 = .ok (.iconst (-1), 1) := by decide +kernel
theorem dX8_lay_65 : decode cX8_lay 65 = .ok (.if_icmp .ne 6, 3) := by decide +kernel
theorem dX8_lay_68 : decode cX8_lay 68 = .ok (.ldc 244, 2) := by decide +kernel
theorem dX8_lay_70 : decode cX8_lay 70 = .ok (.ireturn, 1) := by decide +kernel
theorem dX8_lay_71 : decode cX8_lay 71 = .ok (.aload_n 0, 1) := by decide +kernel
theorem dX8_lay_72 : decode cX8_lay 72 = .ok (.getfield 31, 3) := by decide +kernel
theorem dX8_lay_75 : decode cX8_lay 75 = .ok (.iload_n 1, 1) := by decide +kernel
theorem dX8_lay_76 : decode cX8_lay 76 = .ok (.aaload, 1) := by decide +kernel
theorem dX8_lay_77 : decode cX8_lay 77 = .ok (.astore 4, 2) := by decide +kernel
theorem dX8_lay_79 : decode cX8_lay 79 = .ok (.aload 4, 2) := by decide +kernel
theorem dX8_lay_81 : decode cX8_lay 81 = .ok (.getfield 301, 3) := by decide +kernel
theorem dX8_lay_84 : decode cX8_lay 84 = .ok (.istore 5, 2) := by decide +kernel
theorem dX8_lay_86 : decode cX8_lay 86 = .ok (.aload 4, 2) := by decide +kernel
theorem dX8_lay_88 : decode cX8_lay 88 = .ok (.iload_n 2, 1) := by decide +kernel
theorem dX8_lay_89 : decode cX8_lay 89 = .ok (.putfield 301, 3) := by decide +kernel
theorem dX8_lay_92 : decode cX8_lay 92 = .ok (.iload_n 2, 1) := by decide +kernel
theorem dX8_lay_93 : decode cX8_lay 93 = .ok (.iconst 1, 1) := by decide +kernel
theorem dX8_lay_94 : decode cX8_lay 94 = .ok (.if_icmp .ne 23, 3) := by decide +kernel
theorem dX8_lay_97 : decode cX8_lay 97 = .ok (.aload 4, 2) := by decide +kernel
theorem dX8_lay_99 : decode cX8_lay 99 = .ok (.getfield 304, 3) := by decide +kernel
theorem dX8_lay_102 : decode cX8_lay 102 = .ok (.aload_n 0, 1) := by decide +kernel
theorem dX8_lay_103 : decode cX8_lay 103 = .ok (.getfield 60, 3) := by decide +kernel
theorem dX8_lay_106 : decode cX8_lay 106 = .ok (.getfield 143, 3) := by decide +kernel
theorem dX8_lay_109 : decode cX8_lay 109 = .ok (.iload_n 3, 1) := by decide +kernel
theorem dX8_lay_110 : decode cX8_lay 110 = .ok (.aaload, 1) := by decide +kernel
theorem dX8_lay_111 : decode cX8_lay 111 = .ok (.invokevirtual 308, 3) := by decide +kernel
theorem dX8_lay_114 : decode cX8_lay 114 = .ok (.goto 31, 3) := by decide +kernel
theorem dX8_lay_117 : decode cX8_lay 117 = .ok (.iload_n 2, 1) := by decide +kernel
theorem dX8_lay_118 : decode cX8_lay 118 = .ok (.iconst 2, 1) := by decide +kernel
theorem dX8_lay_119 : decode cX8_lay 119 = .ok (.if_icmp .ne 20, 3) := by decide +kernel
theorem dX8_lay_122 : decode cX8_lay 122 = .ok (.aload 4, 2) := by decide +kernel
theorem dX8_lay_124 : decode cX8_lay 124 = .ok (.getfield 311, 3) := by decide +kernel
theorem dX8_lay_127 : decode cX8_lay 127 = .ok (.aload_n 0, 1) := by decide +kernel
theorem dX8_lay_128 : decode cX8_lay 128 = .ok (.getfield 25, 3) := by decide +kernel
theorem dX8_lay_131 : decode cX8_lay 131 = .ok (.iload_n 3, 1) := by decide +kernel
theorem dX8_lay_132 : decode cX8_lay 132 = .ok (.aaload, 1) := by decide +kernel
theorem dX8_lay_133 : decode cX8_lay 133 = .ok (.invokevirtual 315, 3) := by decide +kernel
theorem dX8_lay_136 : decode cX8_lay 136 = .ok (.goto 9, 3) := by decide +kernel
theorem dX8_lay_139 : decode cX8_lay 139 = .ok (.aload 4, 2) := by decide +kernel
theorem dX8_lay_141 : decode cX8_lay 141 = .ok (.iload_n 3, 1) := by decide +kernel
theorem dX8_lay_142 : decode cX8_lay 142 = .ok (.putfield 318, 3) := by decide +kernel
theorem dX8_lay_145 : decode cX8_lay 145 = .ok (.iload 5, 2) := by decide +kernel
theorem dX8_lay_147 : decode cX8_lay 147 = .ok (.ireturn, 1) := by decide +kernel
theorem dX8_ask_0 : decode cX8_ask 0 = .ok (.iload_n 1, 1) := by decide +kernel
theorem dX8_ask_1 : decode cX8_ask 1 = .ok (.invokestatic 298, 3) := by decide +kernel
theorem dX8_ask_4 : decode cX8_ask 4 = .ok (.ifCond .eq 10, 3) := by decide +kernel
theorem dX8_ask_7 : decode cX8_ask 7 = .ok (.iload_n 2, 1) := by decide +kernel
theorem dX8_ask_8 : decode cX8_ask 8 = .ok (.invokestatic 133, 3) := by decide +kernel
theorem dX8_ask_11 : decode cX8_ask 11 = .ok (.ifCond .ne 6, 3) := by decide +kernel
theorem dX8_ask_14 : decode cX8_ask 14 = .ok (.ldc 81, 2) := by decide +kernel
theorem dX8_ask_16 : decode cX8_ask 16 = .ok (.ireturn, 1) := by decide +kernel
theorem dX8_ask_17 : decode cX8_ask 17 = .ok (.aload_n 0, 1) := by decide +kernel
theorem dX8_ask_18 : decode cX8_ask 18 = .ok (.getfield 31, 3) := by decide +kernel
theorem dX8_ask_21 : decode cX8_ask 21 = .ok (.iload_n 1, 1) := by decide +kernel
theorem dX8_ask_22 : decode cX8_ask 22 = .ok (.aaload, 1) := by decide +kernel
theorem dX8_ask_23 : decode cX8_ask 23 = .ok (.astore_n 3, 1) := by decide +kernel
theorem dX8_ask_24 : decode cX8_ask 24 = .ok (.aload_n 3, 1) := by decide +kernel
theorem dX8_ask_25 : decode cX8_ask 25 = .ok (.getfield 301, 3) := by decide +kernel
theorem dX8_ask_28 : decode cX8_ask 28 = .ok (.ifCond .ne 6, 3) := by decide +kernel
theorem dX8_ask_31 : decode cX8_ask 31 = .ok (.ldc 244, 2) := by decide +kernel
theorem dX8_ask_33 : decode cX8_ask 33 = .ok (.ireturn, 1) := by decide +kernel
theorem dX8_ask_34 : decode cX8_ask 34 = .ok (.aload_n 3, 1) := by decide +kernel
theorem dX8_ask_35 : decode cX8_ask 35 = .ok (.getfield 301, 3) := by decide +kernel
theorem dX8_ask_38 : decode cX8_ask 38 = .ok (.iconst 1, 1) := by decide +kernel
theorem dX8_ask_39 : decode cX8_ask 39 = .ok (.if_icmp .ne 14, 3) := by decide +kernel
theorem dX8_ask_42 : decode cX8_ask 42 = .ok (.aload_n 3, 1) := by decide +kernel
theorem dX8_ask_43 : decode cX8_ask 43 = .ok (.getfield 304, 3) := by decide +kernel
theorem dX8_ask_46 : decode cX8_ask 46 = .ok (.iload_n 2, 1) := by decide +kernel
theorem dX8_ask_47 : decode cX8_ask 47 = .ok (.invokevirtual 172, 3) := by decide +kernel
theorem dX8_ask_50 : decode cX8_ask 50 = .ok (.ifCond .ne 6, 3) := by decide +kernel
theorem dX8_ask_53 : decode cX8_ask 53 = .ok (.ldc 175, 2) := by decide +kernel
theorem dX8_ask_55 : decode cX8_ask 55 = .ok (.ireturn, 1) := by decide +kernel
theorem dX8_ask_56 : decode cX8_ask 56 = .ok (.aload_n 3, 1) := by decide +kernel
theorem dX8_ask_57 : decode cX8_ask 57 = .ok (.getfield 304, 3) := by decide +kernel
theorem dX8_ask_60 : decode cX8_ask 60 = .ok (.invokevirtual 168, 3) := by decide +kernel
theorem dX8_ask_63 : decode cX8_ask 63 = .ok (.ireturn, 1) := by decide +kernel
theorem dX8_item_0 : decode cX8_item 0 = .ok (.iload_n 1, 1) := by decide +kernel
theorem dX8_item_1 : decode cX8_item 1 = .ok (.invokestatic 298, 3) := by decide +kernel
theorem dX8_item_4 : decode cX8_item 4 = .ok (.ifCond .ne 6, 3) := by decide +kernel
theorem dX8_item_7 : decode cX8_item 7 = .ok (.ldc 81, 2) := by decide +kernel
theorem dX8_item_9 : decode cX8_item 9 = .ok (.ireturn, 1) := by decide +kernel
theorem dX8_item_10 : decode cX8_item 10 = .ok (.aload_n 0, 1) := by decide +kernel
theorem dX8_item_11 : decode cX8_item 11 = .ok (.getfield 31, 3) := by decide +kernel
theorem dX8_item_14 : decode cX8_item 14 = .ok (.iload_n 1, 1) := by decide +kernel
theorem dX8_item_15 : decode cX8_item 15 = .ok (.aaload, 1) := by decide +kernel
theorem dX8_item_16 : decode cX8_item 16 = .ok (.astore_n 3, 1) := by decide +kernel
theorem dX8_item_17 : decode cX8_item 17 = .ok (.aload_n 3, 1) := by decide +kernel
theorem dX8_item_18 : decode cX8_item 18 = .ok (.getfield 301, 3) := by decide +kernel
theorem dX8_item_21 : decode cX8_item 21 = .ok (.ifCond .ne 6, 3) := by decide +kernel
theorem dX8_item_24 : decode cX8_item 24 = .ok (.ldc 244, 2) := by decide +kernel
theorem dX8_item_26 : decode cX8_item 26 = .ok (.ireturn, 1) := by decide +kernel
theorem dX8_item_27 : decode cX8_item 27 = .ok (.aload_n 3, 1) := by decide +kernel
theorem dX8_item_28 : decode cX8_item 28 = .ok (.getfield 301, 3) := by decide +kernel
theorem dX8_item_31 : decode cX8_item 31 = .ok (.iconst 2, 1) := by decide +kernel
theorem dX8_item_32 : decode cX8_item 32 = .ok (.if_icmp .eq 6, 3) := by decide +kernel
theorem dX8_item_35 : decode cX8_item 35 = .ok (.ldc 175, 2) := by decide +kernel
theorem dX8_item_37 : decode cX8_item 37 = .ok (.ireturn, 1) := by decide +kernel
theorem dX8_item_38 : decode cX8_item 38 = .ok (.aload_n 3, 1) := by decide +kernel
theorem dX8_item_39 : decode cX8_item 39 = .ok (.getfield 311, 3) := by decide +kernel
theorem dX8_item_42 : decode cX8_item 42 = .ok (.iload_n 2, 1) := by decide +kernel
theorem dX8_item_43 : decode cX8_item 43 = .ok (.invokevirtual 275, 3) := by decide +kernel
theorem dX8_item_46 : decode cX8_item 46 = .ok (.ifCond .ne 7, 3) := by decide +kernel
theorem dX8_item_49 : decode cX8_item 49 = .ok (.ldc_w 276, 3) := by decide +kernel
theorem dX8_item_52 : decode cX8_item 52 = .ok (.ireturn, 1) := by decide +kernel
theorem dX8_item_53 : decode cX8_item 53 = .ok (.aload_n 3, 1) := by decide +kernel
theorem dX8_item_54 : decode cX8_item 54 = .ok (.getfield 311, 3) := by decide +kernel
theorem dX8_item_57 : decode cX8_item 57 = .ok (.getfield 277, 3) := by decide +kernel
theorem dX8_item_60 : decode cX8_item 60 = .ok (.iload_n 2, 1) := by decide +kernel
theorem dX8_item_61 : decode cX8_item 61 = .ok (.iaload, 1) := by decide +kernel
theorem dX8_item_62 : decode cX8_item 62 = .ok (.istore 4, 2) := by decide +kernel
theorem dX8_item_64 : decode cX8_item 64 = .ok (.iload 4, 2) := by decide +kernel
theorem dX8_item_66 : decode cX8_item 66 = .ok (.ldc 222, 2) := by decide +kernel
theorem dX8_item_68 : decode cX8_item 68 = .ok (.if_icmp .ne 8, 3) := by decide +kernel
theorem dX8_item_71 : decode cX8_item 71 = .ok (.ldc 175, 2) := by decide +kernel
theorem dX8_item_73 : decode cX8_item 73 = .ok (.goto 5, 3) := by decide +kernel
theorem dX8_item_76 : decode cX8_item 76 = .ok (.iload 4, 2) := by decide +kernel
theorem dX8_item_78 : decode cX8_item 78 = .ok (.ireturn, 1) := by decide +kernel
theorem dX8_rest_0 : decode cX8_rest 0 = .ok (.iload_n 1, 1) := by decide +kernel
theorem dX8_rest_1 : decode cX8_rest 1 = .ok (.invokestatic 298, 3) := by decide +kernel
theorem dX8_rest_4 : decode cX8_rest 4 = .ok (.ifCond .ne 6, 3) := by decide +kernel
theorem dX8_rest_7 : decode cX8_rest 7 = .ok (.ldc 81, 2) := by decide +kernel
theorem dX8_rest_9 : decode cX8_rest 9 = .ok (.ireturn, 1) := by decide +kernel
theorem dX8_rest_10 : decode cX8_rest 10 = .ok (.aload_n 0, 1) := by decide +kernel
theorem dX8_rest_11 : decode cX8_rest 11 = .ok (.getfield 31, 3) := by decide +kernel
theorem dX8_rest_14 : decode cX8_rest 14 = .ok (.iload_n 1, 1) := by decide +kernel
theorem dX8_rest_15 : decode cX8_rest 15 = .ok (.aaload, 1) := by decide +kernel
theorem dX8_rest_16 : decode cX8_rest 16 = .ok (.astore_n 3, 1) := by decide +kernel
theorem dX8_rest_17 : decode cX8_rest 17 = .ok (.aload_n 3, 1) := by decide +kernel
theorem dX8_rest_18 : decode cX8_rest 18 = .ok (.getfield 301, 3) := by decide +kernel
theorem dX8_rest_21 : decode cX8_rest 21 = .ok (.ifCond .ne 6, 3) := by decide +kernel
theorem dX8_rest_24 : decode cX8_rest 24 = .ok (.ldc 244, 2) := by decide +kernel
theorem dX8_rest_26 : decode cX8_rest 26 = .ok (.ireturn, 1) := by decide +kernel
theorem dX8_rest_27 : decode cX8_rest 27 = .ok (.aload_n 3, 1) := by decide +kernel
theorem dX8_rest_28 : decode cX8_rest 28 = .ok (.getfield 301, 3) := by decide +kernel
theorem dX8_rest_31 : decode cX8_rest 31 = .ok (.iconst 3, 1) := by decide +kernel
theorem dX8_rest_32 : decode cX8_rest 32 = .ok (.if_icmp .eq 6, 3) := by decide +kernel
theorem dX8_rest_35 : decode cX8_rest 35 = .ok (.ldc 175, 2) := by decide +kernel
theorem dX8_rest_37 : decode cX8_rest 37 = .ok (.ireturn, 1) := by decide +kernel
theorem dX8_rest_38 : decode cX8_rest 38 = .ok (.iload_n 2, 1) := by decide +kernel
theorem dX8_rest_39 : decode cX8_rest 39 = .ok (.ifCond .ne 7, 3) := by decide +kernel
theorem dX8_rest_42 : decode cX8_rest 42 = .ok (.ldc_w 321, 3) := by decide +kernel
theorem dX8_rest_45 : decode cX8_rest 45 = .ok (.ireturn, 1) := by decide +kernel
theorem dX8_rest_46 : decode cX8_rest 46 = .ok (.aload_n 3, 1) := by decide +kernel
theorem dX8_rest_47 : decode cX8_rest 47 = .ok (.getfield 318, 3) := by decide +kernel
theorem dX8_rest_50 : decode cX8_rest 50 = .ok (.iload_n 2, 1) := by decide +kernel
theorem dX8_rest_51 : decode cX8_rest 51 = .ok (.irem, 1) := by decide +kernel
theorem dX8_rest_52 : decode cX8_rest 52 = .ok (.ireturn, 1) := by decide +kernel
theorem dX8_tell_0 : decode cX8_tell 0 = .ok (.aload_n 0, 1) := by decide +kernel
theorem dX8_tell_1 : decode cX8_tell 1 = .ok (.getfield 39, 3) := by decide +kernel
theorem dX8_tell_4 : decode cX8_tell 4 = .ok (.aload_n 0, 1) := by decide +kernel
theorem dX8_tell_5 : decode cX8_tell 5 = .ok (.getfield 35, 3) := by decide +kernel
theorem dX8_tell_8 : decode cX8_tell 8 = .ok (.arraylength, 1) := by decide +kernel
theorem dX8_tell_9 : decode cX8_tell 9 = .ok (.if_icmp .lt 6, 3) := by decide +kernel
theorem dX8_tell_12 : decode cX8_tell 12 = .ok (.ldc 250, 2) := by decide +kernel
theorem dX8_tell_14 : decode cX8_tell 14 = .ok (.ireturn, 1) := by decide +kernel
theorem dX8_tell_15 : decode cX8_tell 15 = .ok (.aload_n 0, 1) := by decide +kernel
theorem dX8_tell_16 : decode cX8_tell 16 = .ok (.getfield 35, 3) := by decide +kernel
theorem dX8_tell_19 : decode cX8_tell 19 = .ok (.aload_n 0, 1) := by decide +kernel
theorem dX8_tell_20 : decode cX8_tell 20 = .ok (.getfield 39, 3) := by decide +kernel
theorem dX8_tell_23 : decode cX8_tell 23 = .ok (.iload_n 1, 1) := by decide +kernel
theorem dX8_tell_24 : decode cX8_tell 24 = .ok (.iastore, 1) := by decide +kernel
theorem dX8_tell_25 : decode cX8_tell 25 = .ok (.aload_n 0, 1) := by decide +kernel
theorem dX8_tell_26 : decode cX8_tell 26 = .ok (.dup, 1) := by decide +kernel
theorem dX8_tell_27 : decode cX8_tell 27 = .ok (.getfield 39, 3) := by decide +kernel
theorem dX8_tell_30 : decode cX8_tell 30 = .ok (.iconst 1, 1) := by decide +kernel
theorem dX8_tell_31 : decode cX8_tell 31 = .ok (.iadd, 1) := by decide +kernel
theorem dX8_tell_32 : decode cX8_tell 32 = .ok (.putfield 39, 3) := by decide +kernel
theorem dX8_tell_35 : decode cX8_tell 35 = .ok (.aload_n 0, 1) := by decide +kernel
theorem dX8_tell_36 : decode cX8_tell 36 = .ok (.getfield 39, 3) := by decide +kernel
theorem dX8_tell_39 : decode cX8_tell 39 = .ok (.ireturn, 1) := by decide +kernel
theorem dX8_check_0 : decode cX8_check 0 = .ok (.aload_n 0, 1) := by decide +kernel
theorem dX8_check_1 : decode cX8_check 1 = .ok (.getfield 39, 3) := by decide +kernel
theorem dX8_check_4 : decode cX8_check 4 = .ok (.istore_n 2, 1) := by decide +kernel
theorem dX8_check_5 : decode cX8_check 5 = .ok (.aload_n 0, 1) := by decide +kernel
theorem dX8_check_6 : decode cX8_check 6 = .ok (.iconst 0, 1) := by decide +kernel
theorem dX8_check_7 : decode cX8_check 7 = .ok (.putfield 39, 3) := by decide +kernel
theorem dX8_check_10 : decode cX8_check 10 = .ok (.iload_n 1, 1) := by decide +kernel
theorem dX8_check_11 : decode cX8_check 11 = .ok (.iconst 1, 1) := by decide +kernel
theorem dX8_check_12 : decode cX8_check 12 = .ok (.bipush 30, 2) := by decide +kernel
theorem dX8_check_14 : decode cX8_check 14 = .ok (.invokestatic 77, 3) := by decide +kernel
theorem dX8_check_17 : decode cX8_check 17 = .ok (.ifCond .ne 6, 3) := by decide +kernel
theorem dX8_check_20 : decode cX8_check 20 = .ok (.ldc 81, 2) := by decide +kernel
theorem dX8_check_22 : decode cX8_check 22 = .ok (.ireturn, 1) := by decide +kernel
theorem dX8_check_23 : decode cX8_check 23 = .ok (.aload_n 0, 1) := by decide +kernel
theorem dX8_check_24 : decode cX8_check 24 = .ok (.getfield 43, 3) := by decide +kernel
theorem dX8_check_27 : decode cX8_check 27 = .ok (.ifCond .ne 7, 3) := by decide +kernel
theorem dX8_check_30 : decode cX8_check 30 = .ok (.ldc_w 321, 3) := by decide +kernel
theorem dX8_check_33 : decode cX8_check 33 = .ok (.ireturn, 1) := by decide +kernel
theorem dX8_check_34 : decode cX8_check 34 = .ok (.aload_n 0, 1) := by decide +kernel
theorem dX8_check_35 : decode cX8_check 35 = .ok (.getfield 67, 3) := by decide +kernel
theorem dX8_check_38 : decode cX8_check 38 = .ok (.aload_n 0, 1) := by decide +kernel
theorem dX8_check_39 : decode cX8_check 39 = .ok (.getfield 64, 3) := by decide +kernel
theorem dX8_check_42 : decode cX8_check 42 = .ok (.invokevirtual 211, 3) := by decide +kernel
theorem dX8_check_45 : decode cX8_check 45 = .ok (.iload_n 1, 1) := by decide +kernel
theorem dX8_check_46 : decode cX8_check 46 = .ok (.sipush 9999, 3) := by decide +kernel
theorem dX8_check_49 : decode cX8_check 49 = .ok (.aload_n 0, 1) := by decide +kernel
theorem dX8_check_50 : decode cX8_check 50 = .ok (.getfield 64, 3) := by decide +kernel
theorem dX8_check_53 : decode cX8_check 53 = .ok (.getfield 195, 3) := by decide +kernel
theorem dX8_check_56 : decode cX8_check 56 = .ok (.isub, 1) := by decide +kernel
theorem dX8_check_57 : decode cX8_check 57 = .ok (.invokestatic 120, 3) := by decide +kernel
theorem dX8_check_60 : decode cX8_check 60 = .ok (.istore_n 3, 1) := by decide +kernel
theorem dX8_check_61 : decode cX8_check 61 = .ok (.iconst 0, 1) := by decide +kernel
theorem dX8_check_62 : decode cX8_check 62 = .ok (.istore 4, 2) := by decide +kernel
theorem dX8_check_64 : decode cX8_check 64 = .ok (.iload 4, 2) := by decide +kernel
theorem dX8_check_66 : decode cX8_check 66 = .ok (.iconst 2, 1) := by decide +kernel
theorem dX8_check_67 : decode cX8_check 67 = .ok (.iload_n 3, 1) := by decide +kernel
theorem dX8_check_68 : decode cX8_check 68 = .ok (.imul, 1) := by decide +kernel
theorem dX8_check_69 : decode cX8_check 69 = .ok (.if_icmp .ge 84, 3) := by decide +kernel
theorem dX8_check_72 : decode cX8_check 72 = .ok (.iload 4, 2) := by decide +kernel
theorem dX8_check_74 : decode cX8_check 74 = .ok (.iconst 2, 1) := by decide +kernel
theorem dX8_check_75 : decode cX8_check 75 = .ok (.irem, 1) := by decide +kernel
theorem dX8_check_76 : decode cX8_check 76 = .ok (.ifCond .ne 11, 3) := by decide +kernel
theorem dX8_check_79 : decode cX8_check 79 = .ok (.aload_n 0, 1) := by decide +kernel
theorem dX8_check_80 : decode cX8_check 80 = .ok (.getfield 67, 3) := by decide +kernel
theorem dX8_check_83 : decode cX8_check 83 = .ok (.iconst 1, 1) := by decide +kernel
theorem dX8_check_84 : decode cX8_check 84 = .ok (.invokevirtual 198, 3) := by decide +kernel
theorem dX8_check_87 : decode cX8_check 87 = .ok (.iload 4, 2) := by decide +kernel
theorem dX8_check_89 : decode cX8_check 89 = .ok (.iconst 2, 1) := by decide +kernel
theorem dX8_check_90 : decode cX8_check 90 = .ok (.irem, 1) := by decide +kernel
theorem dX8_check_91 : decode cX8_check 91 = .ok (.ifCond .ne 13, 3) := by decide +kernel
theorem dX8_check_94 : decode cX8_check 94 = .ok (.aload_n 0, 1) := by decide +kernel
theorem dX8_check_95 : decode cX8_check 95 = .ok (.getfield 67, 3) := by decide +kernel
theorem dX8_check_98 : decode cX8_check 98 = .ok (.invokevirtual 322, 3) := by decide +kernel
theorem dX8_check_101 : decode cX8_check 101 = .ok (.goto 21, 3) := by decide +kernel
theorem dX8_check_104 : decode cX8_check 104 = .ok (.aload_n 0, 1) := by decide +kernel
theorem dX8_check_105 : decode cX8_check 105 = .ok (.getfield 67, 3) := by decide +kernel
theorem dX8_check_108 : decode cX8_check 108 = .ok (.getfield 192, 3) := by decide +kernel
theorem dX8_check_111 : decode cX8_check 111 = .ok (.bipush 100, 2) := by decide +kernel
theorem dX8_check_113 : decode cX8_check 113 = .ok (.aload_n 0, 1) := by decide +kernel
theorem dX8_check_114 : decode cX8_check 114 = .ok (.getfield 67, 3) := by decide +kernel
theorem dX8_check_117 : decode cX8_check 117 = .ok (.getfield 124, 3) := by decide +kernel
theorem dX8_check_120 : decode cX8_check 120 = .ok (.imul, 1) := by decide +kernel
theorem dX8_check_121 : decode cX8_check 121 = .ok (.iadd, 1) := by decide +kernel
theorem dX8_check_122 : decode cX8_check 122 = .ok (.istore 5, 2) := by decide +kernel
theorem dX8_check_124 : decode cX8_check 124 = .ok (.iload 4, 2) := by decide +kernel
theorem dX8_check_126 : decode cX8_check 126 = .ok (.iload_n 2, 1) := by decide +kernel
theorem dX8_check_127 : decode cX8_check 127 = .ok (.if_icmp .ge 15, 3) := by decide +kernel
theorem dX8_check_130 : decode cX8_check 130 = .ok (.aload_n 0, 1) := by decide +kernel
theorem dX8_check_131 : decode cX8_check 131 = .ok (.getfield 35, 3) := by decide +kernel
theorem dX8_check_134 : decode cX8_check 134 = .ok (.iload 4, 2) := by decide +kernel
theorem dX8_check_136 : decode cX8_check 136 = .ok (.iaload, 1) := by decide +kernel
theorem dX8_check_137 : decode cX8_check 137 = .ok (.iload 5, 2) := by decide +kernel
theorem dX8_check_139 : decode cX8_check 139 = .ok (.if_icmp .eq 8, 3) := by decide +kernel
theorem dX8_check_142 : decode cX8_check 142 = .ok (.iconst 1, 1) := by decide +kernel
theorem dX8_check_143 : decode cX8_check 143 = .ok (.iload 4, 2) := by decide +kernel
theorem dX8_check_145 : decode cX8_check 145 = .ok (.iadd, 1) := by decide +kernel
theorem dX8_check_146 : decode cX8_check 146 = .ok (.ireturn, 1) := by decide +kernel
theorem dX8_check_147 : decode cX8_check 147 = .ok (.iinc 4 1, 3) := by decide +kernel
theorem dX8_check_150 : decode cX8_check 150 = .ok (.goto (-86), 3) := by decide +kernel
theorem dX8_check_153 : decode cX8_check 153 = .ok (.iload_n 2, 1) := by decide +kernel
theorem dX8_check_154 : decode cX8_check 154 = .ok (.iconst 2, 1) := by decide +kernel
theorem dX8_check_155 : decode cX8_check 155 = .ok (.iload_n 3, 1) := by decide +kernel
theorem dX8_check_156 : decode cX8_check 156 = .ok (.imul, 1) := by decide +kernel
theorem dX8_check_157 : decode cX8_check 157 = .ok (.if_icmp .le 11, 3) := by decide +kernel
theorem dX8_check_160 : decode cX8_check 160 = .ok (.iconst 1, 1) := by decide +kernel
theorem dX8_check_161 : decode cX8_check 161 = .ok (.iconst 2, 1) := by decide +kernel
theorem dX8_check_162 : decode cX8_check 162 = .ok (.iload_n 3, 1) := by decide +kernel
theorem dX8_check_163 : decode cX8_check 163 = .ok (.imul, 1) := by decide +kernel
theorem dX8_check_164 : decode cX8_check 164 = .ok (.iadd, 1) := by decide +kernel
theorem dX8_check_165 : decode cX8_check 165 = .ok (.goto 4, 3) := by decide +kernel
theorem dX8_check_168 : decode cX8_check 168 = .ok (.iconst 0, 1) := by decide +kernel
theorem dX8_check_169 : decode cX8_check 169 = .ok (.ireturn, 1) := by decide +kernel
theorem dX8_keep_0 : decode cX8_keep 0 = .ok (.aload_n 0, 1) := by decide +kernel
theorem dX8_keep_1 : decode cX8_keep 1 = .ok (.getfield 64, 3) := by decide +kernel
theorem dX8_keep_4 : decode cX8_keep 4 = .ok (.aload_n 0, 1) := by decide +kernel
theorem dX8_keep_5 : decode cX8_keep 5 = .ok (.getfield 60, 3) := by decide +kernel
theorem dX8_keep_8 : decode cX8_keep 8 = .ok (.invokevirtual 211, 3) := by decide +kernel
theorem dX8_keep_11 : decode cX8_keep 11 = .ok (.aload_n 0, 1) := by decide +kernel
theorem dX8_keep_12 : decode cX8_keep 12 = .ok (.iconst 1, 1) := by decide +kernel
theorem dX8_keep_13 : decode cX8_keep 13 = .ok (.putfield 43, 3) := by decide +kernel
theorem dX8_keep_16 : decode cX8_keep 16 = .ok (.aload_n 0, 1) := by decide +kernel
theorem dX8_keep_17 : decode cX8_keep 17 = .ok (.getfield 60, 3) := by decide +kernel
theorem dX8_keep_20 : decode cX8_keep 20 = .ok (.getfield 82, 3) := by decide +kernel
theorem dX8_keep_23 : decode cX8_keep 23 = .ok (.getfield 117, 3) := by decide +kernel
theorem dX8_keep_26 : decode cX8_keep 26 = .ok (.ireturn, 1) := by decide +kernel
theorem dX8_back_0 : decode cX8_back 0 = .ok (.aload_n 0, 1) := by decide +kernel
theorem dX8_back_1 : decode cX8_back 1 = .ok (.getfield 43, 3) := by decide +kernel
theorem dX8_back_4 : decode cX8_back 4 = .ok (.ifCond .ne 7, 3) := by decide +kernel
theorem dX8_back_7 : decode cX8_back 7 = .ok (.ldc_w 321, 3) := by decide +kernel
theorem dX8_back_10 : decode cX8_back 10 = .ok (.ireturn, 1) := by decide +kernel
theorem dX8_back_11 : decode cX8_back 11 = .ok (.aload_n 0, 1) := by decide +kernel
theorem dX8_back_12 : decode cX8_back 12 = .ok (.getfield 60, 3) := by decide +kernel
theorem dX8_back_15 : decode cX8_back 15 = .ok (.aload_n 0, 1) := by decide +kernel
theorem dX8_back_16 : decode cX8_back 16 = .ok (.getfield 64, 3) := by decide +kernel
theorem dX8_back_19 : decode cX8_back 19 = .ok (.invokevirtual 211, 3) := by decide +kernel
theorem dX8_back_22 : decode cX8_back 22 = .ok (.aload_n 0, 1) := by decide +kernel
theorem dX8_back_23 : decode cX8_back 23 = .ok (.getfield 60, 3) := by decide +kernel
theorem dX8_back_26 : decode cX8_back 26 = .ok (.getfield 82, 3) := by decide +kernel
theorem dX8_back_29 : decode cX8_back 29 = .ok (.getfield 117, 3) := by decide +kernel
theorem dX8_back_32 : decode cX8_back 32 = .ok (.ireturn, 1) := by decide +kernel
theorem dX8_count_0 : decode cX8_count 0 = .ok (.iload_n 1, 1) := by decide +kernel
theorem dX8_count_1 : decode cX8_count 1 = .ok (.tableswitch 162 0 11 #[63, 74, 82, 90, 98, 106, 114, 122, 133, 141, 146, 154], 63) := by decide +kernel
theorem dX8_count_64 : decode cX8_count 64 = .ok (.aload_n 0, 1) := by decide +kernel
theorem dX8_count_65 : decode cX8_count 65 = .ok (.getfield 60, 3) := by decide +kernel
theorem dX8_count_68 : decode cX8_count 68 = .ok (.getfield 82, 3) := by decide +kernel
theorem dX8_count_71 : decode cX8_count 71 = .ok (.getfield 117, 3) := by decide +kernel
theorem dX8_count_74 : decode cX8_count 74 = .ok (.ireturn, 1) := by decide +kernel
theorem dX8_count_75 : decode cX8_count 75 = .ok (.aload_n 0, 1) := by decide +kernel
theorem dX8_count_76 : decode cX8_count 76 = .ok (.getfield 60, 3) := by decide +kernel
theorem dX8_count_79 : decode cX8_count 79 = .ok (.getfield 180, 3) := by decide +kernel
theorem dX8_count_82 : decode cX8_count 82 = .ok (.ireturn, 1) := by decide +kernel
theorem dX8_count_83 : decode cX8_count 83 = .ok (.aload_n 0, 1) := by decide +kernel
theorem dX8_count_84 : decode cX8_count 84 = .ok (.getfield 60, 3) := by decide +kernel
theorem dX8_count_87 : decode cX8_count 87 = .ok (.invokevirtual 325, 3) := by decide +kernel
theorem dX8_count_90 : decode cX8_count 90 = .ok (.ireturn, 1) := by decide +kernel
theorem dX8_count_91 : decode cX8_count 91 = .ok (.aload_n 0, 1) := by decide +kernel
theorem dX8_count_92 : decode cX8_count 92 = .ok (.getfield 60, 3) := by decide +kernel
theorem dX8_count_95 : decode cX8_count 95 = .ok (.getfield 124, 3) := by decide +kernel
theorem dX8_count_98 : decode cX8_count 98 = .ok (.ireturn, 1) := by decide +kernel
theorem dX8_count_99 : decode cX8_count 99 = .ok (.aload_n 0, 1) := by decide +kernel
theorem dX8_count_100 : decode cX8_count 100 = .ok (.getfield 60, 3) := by decide +kernel
theorem dX8_count_103 : decode cX8_count 103 = .ok (.getfield 127, 3) := by decide +kernel
theorem dX8_count_106 : decode cX8_count 106 = .ok (.ireturn, 1) := by decide +kernel
theorem dX8_count_107 : decode cX8_count 107 = .ok (.aload_n 0, 1) := by decide +kernel
theorem dX8_count_108 : decode cX8_count 108 = .ok (.getfield 60, 3) := by decide +kernel
theorem dX8_count_111 : decode cX8_count 111 = .ok (.getfield 130, 3) := by decide +kernel
theorem dX8_count_114 : decode cX8_count 114 = .ok (.ireturn, 1) := by decide +kernel
theorem dX8_count_115 : decode cX8_count 115 = .ok (.aload_n 0, 1) := by decide +kernel
theorem dX8_count_116 : decode cX8_count 116 = .ok (.getfield 60, 3) := by decide +kernel
theorem dX8_count_119 : decode cX8_count 119 = .ok (.getfield 195, 3) := by decide +kernel
theorem dX8_count_122 : decode cX8_count 122 = .ok (.ireturn, 1) := by decide +kernel
theorem dX8_count_123 : decode cX8_count 123 = .ok (.aload_n 0, 1) := by decide +kernel
theorem dX8_count_124 : decode cX8_count 124 = .ok (.getfield 60, 3) := by decide +kernel
theorem dX8_count_127 : decode cX8_count 127 = .ok (.getfield 82, 3) := by decide +kernel
theorem dX8_count_130 : decode cX8_count 130 = .ok (.invokevirtual 215, 3) := by decide +kernel
theorem dX8_count_133 : decode cX8_count 133 = .ok (.ireturn, 1) := by decide +kernel
theorem dX8_count_134 : decode cX8_count 134 = .ok (.aload_n 0, 1) := by decide +kernel
theorem dX8_count_135 : decode cX8_count 135 = .ok (.getfield 60, 3) := by decide +kernel
theorem dX8_count_138 : decode cX8_count 138 = .ok (.getfield 254, 3) := by decide +kernel
theorem dX8_count_141 : decode cX8_count 141 = .ok (.ireturn, 1) := by decide +kernel
theorem dX8_count_142 : decode cX8_count 142 = .ok (.aload_n 0, 1) := by decide +kernel
theorem dX8_count_143 : decode cX8_count 143 = .ok (.getfield 39, 3) := by decide +kernel
theorem dX8_count_146 : decode cX8_count 146 = .ok (.ireturn, 1) := by decide +kernel
theorem dX8_count_147 : decode cX8_count 147 = .ok (.aload_n 0, 1) := by decide +kernel
theorem dX8_count_148 : decode cX8_count 148 = .ok (.getfield 19, 3) := by decide +kernel
theorem dX8_count_151 : decode cX8_count 151 = .ok (.getfield 249, 3) := by decide +kernel
theorem dX8_count_154 : decode cX8_count 154 = .ok (.ireturn, 1) := by decide +kernel
theorem dX8_count_155 : decode cX8_count 155 = .ok (.aload_n 0, 1) := by decide +kernel
theorem dX8_count_156 : decode cX8_count 156 = .ok (.getfield 60, 3) := by decide +kernel
theorem dX8_count_159 : decode cX8_count 159 = .ok (.getfield 189, 3) := by decide +kernel
theorem dX8_count_162 : decode cX8_count 162 = .ok (.ireturn, 1) := by decide +kernel
theorem dX8_count_163 : decode cX8_count 163 = .ok (.ldc 81, 2) := by decide +kernel
theorem dX8_count_165 : decode cX8_count 165 = .ok (.ireturn, 1) := by decide +kernel
theorem dX8_within_0 : decode cX8_within 0 = .ok (.iload_n 0, 1) := by decide +kernel
theorem dX8_within_1 : decode cX8_within 1 = .ok (.iload_n 1, 1) := by decide +kernel
theorem dX8_within_2 : decode cX8_within 2 = .ok (.if_icmp .lt 12, 3) := by decide +kernel
theorem dX8_within_5 : decode cX8_within 5 = .ok (.iload_n 0, 1) := by decide +kernel
theorem dX8_within_6 : decode cX8_within 6 = .ok (.iload_n 2, 1) := by decide +kernel
theorem dX8_within_7 : decode cX8_within 7 = .ok (.if_icmp .gt 7, 3) := by decide +kernel
theorem dX8_within_10 : decode cX8_within 10 = .ok (.iconst 1, 1) := by decide +kernel
theorem dX8_within_11 : decode cX8_within 11 = .ok (.goto 4, 3) := by decide +kernel
theorem dX8_within_14 : decode cX8_within 14 = .ok (.iconst 0, 1) := by decide +kernel
theorem dX8_within_15 : decode cX8_within 15 = .ok (.ireturn, 1) := by decide +kernel
theorem dX8_held_0 : decode cX8_held 0 = .ok (.iload_n 1, 1) := by decide +kernel
theorem dX8_held_1 : decode cX8_held 1 = .ok (.iload_n 2, 1) := by decide +kernel
theorem dX8_held_2 : decode cX8_held 2 = .ok (.iload_n 0, 1) := by decide +kernel
theorem dX8_held_3 : decode cX8_held 3 = .ok (.invokestatic 120, 3) := by decide +kernel
theorem dX8_held_6 : decode cX8_held 6 = .ok (.invokestatic 328, 3) := by decide +kernel
theorem dX8_held_9 : decode cX8_held 9 = .ok (.ireturn, 1) := by decide +kernel
theorem dX8_isKind_0 : decode cX8_isKind 0 = .ok (.iload_n 0, 1) := by decide +kernel
theorem dX8_isKind_1 : decode cX8_isKind 1 = .ok (.iconst 0, 1) := by decide +kernel
theorem dX8_isKind_2 : decode cX8_isKind 2 = .ok (.getstatic 186, 3) := by decide +kernel
theorem dX8_isKind_5 : decode cX8_isKind 5 = .ok (.arraylength, 1) := by decide +kernel
theorem dX8_isKind_6 : decode cX8_isKind 6 = .ok (.iconst 1, 1) := by decide +kernel
theorem dX8_isKind_7 : decode cX8_isKind 7 = .ok (.isub, 1) := by decide +kernel
theorem dX8_isKind_8 : decode cX8_isKind 8 = .ok (.invokestatic 77, 3) := by decide +kernel
theorem dX8_isKind_11 : decode cX8_isKind 11 = .ok (.ireturn, 1) := by decide +kernel
theorem dX8_isSheet_0 : decode cX8_isSheet 0 = .ok (.iload_n 0, 1) := by decide +kernel
theorem dX8_isSheet_1 : decode cX8_isSheet 1 = .ok (.iconst 0, 1) := by decide +kernel
theorem dX8_isSheet_2 : decode cX8_isSheet 2 = .ok (.iconst 3, 1) := by decide +kernel
theorem dX8_isSheet_3 : decode cX8_isSheet 3 = .ok (.invokestatic 77, 3) := by decide +kernel
theorem dX8_isSheet_6 : decode cX8_isSheet 6 = .ok (.ireturn, 1) := by decide +kernel
theorem dX8_isSlot_0 : decode cX8_isSlot 0 = .ok (.iload_n 0, 1) := by decide +kernel
theorem dX8_isSlot_1 : decode cX8_isSlot 1 = .ok (.iconst 0, 1) := by decide +kernel
theorem dX8_isSlot_2 : decode cX8_isSlot 2 = .ok (.iconst 4, 1) := by decide +kernel
theorem dX8_isSlot_3 : decode cX8_isSlot 3 = .ok (.invokestatic 77, 3) := by decide +kernel
theorem dX8_isSlot_6 : decode cX8_isSlot 6 = .ok (.ireturn, 1) := by decide +kernel
