/-! the law: words of its calls -/
theorem wl_0 : Cond.code yX8_wagon cX8_wagon 2 (some .int) ∈ gw_tbl := gw_in (List.mem_of_getElem? (i := 400) (by decide +kernel)) (by decide +kernel)
theorem wl_1 : Cond.initialized RX8 ∈ gw_tbl := gw_in (List.mem_of_getElem? (i := 66) (by decide +kernel)) (by decide +kernel)
theorem wl_2 : Cond.instanceMethod yX8_wagon ∈ gw_tbl := gw_in (List.mem_of_getElem? (i := 398) (by decide +kernel)) (by decide +kernel)
theorem wl_3 : Cond.selects RX8 yX8_wagon yX8_wagon ∈ gw_tbl := gw_in (List.mem_of_getElem? (i := 399) (by decide +kernel)) (by decide +kernel)
theorem wl_4 : Cond.methodLink RL 13 yX8_wagon ∈ gw_tbl := gw_in (List.mem_of_getElem? (i := 397) (by decide +kernel)) (by decide +kernel)
theorem wl_5 : Cond.code yX9_wagon cX9_wagon 3 (some .int) ∈ gw_tbl := gw_in (List.mem_of_getElem? (i := 1099) (by decide +kernel)) (by decide +kernel)
theorem wl_6 : Cond.initialized RX9 ∈ gw_tbl := gw_in (List.mem_of_getElem? (i := 75) (by decide +kernel)) (by decide +kernel)
theorem wl_7 : Cond.instanceMethod yX9_wagon ∈ gw_tbl := gw_in (List.mem_of_getElem? (i := 1097) (by decide +kernel)) (by decide +kernel)
theorem wl_8 : Cond.selects RX9 yX9_wagon yX9_wagon ∈ gw_tbl := gw_in (List.mem_of_getElem? (i := 1098) (by decide +kernel)) (by decide +kernel)
theorem wl_9 : Cond.methodLink RL 17 yX9_wagon ∈ gw_tbl := gw_in (List.mem_of_getElem? (i := 1096) (by decide +kernel)) (by decide +kernel)
theorem wl_10 : Cond.code yX8_at cX8_at 3 (some .int) ∈ gw_tbl := gw_in (List.mem_of_getElem? (i := 413) (by decide +kernel)) (by decide +kernel)
theorem wl_11 : Cond.instanceMethod yX8_at ∈ gw_tbl := gw_in (List.mem_of_getElem? (i := 411) (by decide +kernel)) (by decide +kernel)
theorem wl_12 : Cond.selects RX8 yX8_at yX8_at ∈ gw_tbl := gw_in (List.mem_of_getElem? (i := 412) (by decide +kernel)) (by decide +kernel)
theorem wl_13 : Cond.methodLink RL 18 yX8_at ∈ gw_tbl := gw_in (List.mem_of_getElem? (i := 410) (by decide +kernel)) (by decide +kernel)
theorem wl_14 : Cond.code yX9_at cX9_at 3 (some .int) ∈ gw_tbl := gw_in (List.mem_of_getElem? (i := 1109) (by decide +kernel)) (by decide +kernel)
theorem wl_15 : Cond.instanceMethod yX9_at ∈ gw_tbl := gw_in (List.mem_of_getElem? (i := 1107) (by decide +kernel)) (by decide +kernel)
theorem wl_16 : Cond.selects RX9 yX9_at yX9_at ∈ gw_tbl := gw_in (List.mem_of_getElem? (i := 1108) (by decide +kernel)) (by decide +kernel)
theorem wl_17 : Cond.methodLink RL 22 yX9_at ∈ gw_tbl := gw_in (List.mem_of_getElem? (i := 1106) (by decide +kernel)) (by decide +kernel)
theorem wl_18 : Cond.code yX8_lays cX8_lays 6 (some .int) ∈ gw_tbl := gw_in (List.mem_of_getElem? (i := 481) (by decide +kernel)) (by decide +kernel)
theorem wl_19 : Cond.instanceMethod yX8_lays ∈ gw_tbl := gw_in (List.mem_of_getElem? (i := 479) (by decide +kernel)) (by decide +kernel)
theorem wl_20 : Cond.selects RX8 yX8_lays yX8_lays ∈ gw_tbl := gw_in (List.mem_of_getElem? (i := 480) (by decide +kernel)) (by decide +kernel)
theorem wl_21 : Cond.methodLink RL 23 yX8_lays ∈ gw_tbl := gw_in (List.mem_of_getElem? (i := 478) (by decide +kernel)) (by decide +kernel)
theorem wl_22 : Cond.code yX9_lays cX9_lays 4 (some .int) ∈ gw_tbl := gw_in (List.mem_of_getElem? (i := 1163) (by decide +kernel)) (by decide +kernel)
theorem wl_23 : Cond.instanceMethod yX9_lays ∈ gw_tbl := gw_in (List.mem_of_getElem? (i := 1161) (by decide +kernel)) (by decide +kernel)
theorem wl_24 : Cond.selects RX9 yX9_lays yX9_lays ∈ gw_tbl := gw_in (List.mem_of_getElem? (i := 1162) (by decide +kernel)) (by decide +kernel)
theorem wl_25 : Cond.methodLink RL 27 yX9_lays ∈ gw_tbl := gw_in (List.mem_of_getElem? (i := 1160) (by decide +kernel)) (by decide +kernel)
theorem wl_26 : Cond.code yX8_far cX8_far 4 (some .int) ∈ gw_tbl := gw_in (List.mem_of_getElem? (i := 485) (by decide +kernel)) (by decide +kernel)
theorem wl_27 : Cond.instanceMethod yX8_far ∈ gw_tbl := gw_in (List.mem_of_getElem? (i := 483) (by decide +kernel)) (by decide +kernel)
theorem wl_28 : Cond.selects RX8 yX8_far yX8_far ∈ gw_tbl := gw_in (List.mem_of_getElem? (i := 484) (by decide +kernel)) (by decide +kernel)
theorem wl_29 : Cond.methodLink RL 28 yX8_far ∈ gw_tbl := gw_in (List.mem_of_getElem? (i := 482) (by decide +kernel)) (by decide +kernel)
theorem wl_30 : Cond.code yX9_far cX9_far 4 (some .int) ∈ gw_tbl := gw_in (List.mem_of_getElem? (i := 1173) (by decide +kernel)) (by decide +kernel)
theorem wl_31 : Cond.instanceMethod yX9_far ∈ gw_tbl := gw_in (List.mem_of_getElem? (i := 1171) (by decide +kernel)) (by decide +kernel)
theorem wl_32 : Cond.selects RX9 yX9_far yX9_far ∈ gw_tbl := gw_in (List.mem_of_getElem? (i := 1172) (by decide +kernel)) (by decide +kernel)
theorem wl_33 : Cond.methodLink RL 31 yX9_far ∈ gw_tbl := gw_in (List.mem_of_getElem? (i := 1170) (by decide +kernel)) (by decide +kernel)
theorem wl_34 : Cond.code yX8_plain cX8_plain 4 (some .int) ∈ gw_tbl := gw_in (List.mem_of_getElem? (i := 492) (by decide +kernel)) (by decide +kernel)
theorem wl_35 : Cond.instanceMethod yX8_plain ∈ gw_tbl := gw_in (List.mem_of_getElem? (i := 490) (by decide +kernel)) (by decide +kernel)
theorem wl_36 : Cond.selects RX8 yX8_plain yX8_plain ∈ gw_tbl := gw_in (List.mem_of_getElem? (i := 491) (by decide +kernel)) (by decide +kernel)
theorem wl_37 : Cond.methodLink RL 32 yX8_plain ∈ gw_tbl := gw_in (List.mem_of_getElem? (i := 489) (by decide +kernel)) (by decide +kernel)
theorem wl_38 : Cond.code yX9_plain cX9_plain 3 (some .int) ∈ gw_tbl := gw_in (List.mem_of_getElem? (i := 1180) (by decide +kernel)) (by decide +kernel)
theorem wl_39 : Cond.instanceMethod yX9_plain ∈ gw_tbl := gw_in (List.mem_of_getElem? (i := 1178) (by decide +kernel)) (by decide +kernel)
theorem wl_40 : Cond.selects RX9 yX9_plain yX9_plain ∈ gw_tbl := gw_in (List.mem_of_getElem? (i := 1179) (by decide +kernel)) (by decide +kernel)
theorem wl_41 : Cond.methodLink RL 35 yX9_plain ∈ gw_tbl := gw_in (List.mem_of_getElem? (i := 1177) (by decide +kernel)) (by decide +kernel)
theorem wl_42 : Cond.code yX8_watcher cX8_watcher 4 (some .int) ∈ gw_tbl := gw_in (List.mem_of_getElem? (i := 496) (by decide +kernel)) (by decide +kernel)
theorem wl_43 : Cond.instanceMethod yX8_watcher ∈ gw_tbl := gw_in (List.mem_of_getElem? (i := 494) (by decide +kernel)) (by decide +kernel)
theorem wl_44 : Cond.selects RX8 yX8_watcher yX8_watcher ∈ gw_tbl := gw_in (List.mem_of_getElem? (i := 495) (by decide +kernel)) (by decide +kernel)
theorem wl_45 : Cond.methodLink RL 36 yX8_watcher ∈ gw_tbl := gw_in (List.mem_of_getElem? (i := 493) (by decide +kernel)) (by decide +kernel)
theorem wl_46 : Cond.code yX9_watcher cX9_watcher 4 (some .int) ∈ gw_tbl := gw_in (List.mem_of_getElem? (i := 1185) (by decide +kernel)) (by decide +kernel)
theorem wl_47 : Cond.instanceMethod yX9_watcher ∈ gw_tbl := gw_in (List.mem_of_getElem? (i := 1183) (by decide +kernel)) (by decide +kernel)
theorem wl_48 : Cond.selects RX9 yX9_watcher yX9_watcher ∈ gw_tbl := gw_in (List.mem_of_getElem? (i := 1184) (by decide +kernel)) (by decide +kernel)
theorem wl_49 : Cond.methodLink RL 39 yX9_watcher ∈ gw_tbl := gw_in (List.mem_of_getElem? (i := 1182) (by decide +kernel)) (by decide +kernel)
theorem wl_50 : Cond.code yX8_told cX8_told 4 (some .int) ∈ gw_tbl := gw_in (List.mem_of_getElem? (i := 510) (by decide +kernel)) (by decide +kernel)
theorem wl_51 : Cond.instanceMethod yX8_told ∈ gw_tbl := gw_in (List.mem_of_getElem? (i := 508) (by decide +kernel)) (by decide +kernel)
theorem wl_52 : Cond.selects RX8 yX8_told yX8_told ∈ gw_tbl := gw_in (List.mem_of_getElem? (i := 509) (by decide +kernel)) (by decide +kernel)
theorem wl_53 : Cond.methodLink RL 40 yX8_told ∈ gw_tbl := gw_in (List.mem_of_getElem? (i := 507) (by decide +kernel)) (by decide +kernel)
theorem wl_54 : Cond.code yX9_told cX9_told 3 (some .int) ∈ gw_tbl := gw_in (List.mem_of_getElem? (i := 1195) (by decide +kernel)) (by decide +kernel)
theorem wl_55 : Cond.instanceMethod yX9_told ∈ gw_tbl := gw_in (List.mem_of_getElem? (i := 1193) (by decide +kernel)) (by decide +kernel)
theorem wl_56 : Cond.selects RX9 yX9_told yX9_told ∈ gw_tbl := gw_in (List.mem_of_getElem? (i := 1194) (by decide +kernel)) (by decide +kernel)
theorem wl_57 : Cond.methodLink RL 43 yX9_told ∈ gw_tbl := gw_in (List.mem_of_getElem? (i := 1192) (by decide +kernel)) (by decide +kernel)
theorem wl_58 : Cond.code yX8_as cX8_as 4 (some .int) ∈ gw_tbl := gw_in (List.mem_of_getElem? (i := 523) (by decide +kernel)) (by decide +kernel)
theorem wl_59 : Cond.instanceMethod yX8_as ∈ gw_tbl := gw_in (List.mem_of_getElem? (i := 521) (by decide +kernel)) (by decide +kernel)
theorem wl_60 : Cond.selects RX8 yX8_as yX8_as ∈ gw_tbl := gw_in (List.mem_of_getElem? (i := 522) (by decide +kernel)) (by decide +kernel)
theorem wl_61 : Cond.methodLink RL 44 yX8_as ∈ gw_tbl := gw_in (List.mem_of_getElem? (i := 520) (by decide +kernel)) (by decide +kernel)
theorem wl_62 : Cond.code yX9_as cX9_as 3 (some .int) ∈ gw_tbl := gw_in (List.mem_of_getElem? (i := 1208) (by decide +kernel)) (by decide +kernel)
theorem wl_63 : Cond.instanceMethod yX9_as ∈ gw_tbl := gw_in (List.mem_of_getElem? (i := 1206) (by decide +kernel)) (by decide +kernel)
theorem wl_64 : Cond.selects RX9 yX9_as yX9_as ∈ gw_tbl := gw_in (List.mem_of_getElem? (i := 1207) (by decide +kernel)) (by decide +kernel)
theorem wl_65 : Cond.methodLink RL 47 yX9_as ∈ gw_tbl := gw_in (List.mem_of_getElem? (i := 1205) (by decide +kernel)) (by decide +kernel)
theorem wl_66 : Cond.code yX8_turns cX8_turns 5 (some .int) ∈ gw_tbl := gw_in (List.mem_of_getElem? (i := 534) (by decide +kernel)) (by decide +kernel)
theorem wl_67 : Cond.instanceMethod yX8_turns ∈ gw_tbl := gw_in (List.mem_of_getElem? (i := 532) (by decide +kernel)) (by decide +kernel)
theorem wl_68 : Cond.selects RX8 yX8_turns yX8_turns ∈ gw_tbl := gw_in (List.mem_of_getElem? (i := 533) (by decide +kernel)) (by decide +kernel)
theorem wl_69 : Cond.methodLink RL 48 yX8_turns ∈ gw_tbl := gw_in (List.mem_of_getElem? (i := 531) (by decide +kernel)) (by decide +kernel)
theorem wl_70 : Cond.code yX9_turns cX9_turns 3 (some .int) ∈ gw_tbl := gw_in (List.mem_of_getElem? (i := 1216) (by decide +kernel)) (by decide +kernel)
theorem wl_71 : Cond.instanceMethod yX9_turns ∈ gw_tbl := gw_in (List.mem_of_getElem? (i := 1214) (by decide +kernel)) (by decide +kernel)
theorem wl_72 : Cond.selects RX9 yX9_turns yX9_turns ∈ gw_tbl := gw_in (List.mem_of_getElem? (i := 1215) (by decide +kernel)) (by decide +kernel)
theorem wl_73 : Cond.methodLink RL 51 yX9_turns ∈ gw_tbl := gw_in (List.mem_of_getElem? (i := 1213) (by decide +kernel)) (by decide +kernel)
theorem wl_74 : Cond.code yX8_set cX8_set 6 (some .int) ∈ gw_tbl := gw_in (List.mem_of_getElem? (i := 538) (by decide +kernel)) (by decide +kernel)
theorem wl_75 : Cond.instanceMethod yX8_set ∈ gw_tbl := gw_in (List.mem_of_getElem? (i := 536) (by decide +kernel)) (by decide +kernel)
theorem wl_76 : Cond.selects RX8 yX8_set yX8_set ∈ gw_tbl := gw_in (List.mem_of_getElem? (i := 537) (by decide +kernel)) (by decide +kernel)
theorem wl_77 : Cond.methodLink RL 52 yX8_set ∈ gw_tbl := gw_in (List.mem_of_getElem? (i := 535) (by decide +kernel)) (by decide +kernel)
theorem wl_78 : Cond.code yX9_set cX9_set 4 (some .int) ∈ gw_tbl := gw_in (List.mem_of_getElem? (i := 1220) (by decide +kernel)) (by decide +kernel)
theorem wl_79 : Cond.instanceMethod yX9_set ∈ gw_tbl := gw_in (List.mem_of_getElem? (i := 1218) (by decide +kernel)) (by decide +kernel)
theorem wl_80 : Cond.selects RX9 yX9_set yX9_set ∈ gw_tbl := gw_in (List.mem_of_getElem? (i := 1219) (by decide +kernel)) (by decide +kernel)
theorem wl_81 : Cond.methodLink RL 55 yX9_set ∈ gw_tbl := gw_in (List.mem_of_getElem? (i := 1217) (by decide +kernel)) (by decide +kernel)
theorem wl_82 : Cond.code yX8_deal cX8_deal 7 (some .int) ∈ gw_tbl := gw_in (List.mem_of_getElem? (i := 546) (by decide +kernel)) (by decide +kernel)
theorem wl_83 : Cond.instanceMethod yX8_deal ∈ gw_tbl := gw_in (List.mem_of_getElem? (i := 544) (by decide +kernel)) (by decide +kernel)
theorem wl_84 : Cond.selects RX8 yX8_deal yX8_deal ∈ gw_tbl := gw_in (List.mem_of_getElem? (i := 545) (by decide +kernel)) (by decide +kernel)
theorem wl_85 : Cond.methodLink RL 56 yX8_deal ∈ gw_tbl := gw_in (List.mem_of_getElem? (i := 543) (by decide +kernel)) (by decide +kernel)
theorem wl_86 : Cond.code yX9_deal cX9_deal 5 (some .int) ∈ gw_tbl := gw_in (List.mem_of_getElem? (i := 1228) (by decide +kernel)) (by decide +kernel)
theorem wl_87 : Cond.instanceMethod yX9_deal ∈ gw_tbl := gw_in (List.mem_of_getElem? (i := 1226) (by decide +kernel)) (by decide +kernel)
theorem wl_88 : Cond.selects RX9 yX9_deal yX9_deal ∈ gw_tbl := gw_in (List.mem_of_getElem? (i := 1227) (by decide +kernel)) (by decide +kernel)
theorem wl_89 : Cond.methodLink RL 59 yX9_deal ∈ gw_tbl := gw_in (List.mem_of_getElem? (i := 1225) (by decide +kernel)) (by decide +kernel)
theorem wl_90 : Cond.code yX8_seed cX8_seed 3 (some .int) ∈ gw_tbl := gw_in (List.mem_of_getElem? (i := 555) (by decide +kernel)) (by decide +kernel)
theorem wl_91 : Cond.instanceMethod yX8_seed ∈ gw_tbl := gw_in (List.mem_of_getElem? (i := 553) (by decide +kernel)) (by decide +kernel)
theorem wl_92 : Cond.selects RX8 yX8_seed yX8_seed ∈ gw_tbl := gw_in (List.mem_of_getElem? (i := 554) (by decide +kernel)) (by decide +kernel)
theorem wl_93 : Cond.methodLink RL 60 yX8_seed ∈ gw_tbl := gw_in (List.mem_of_getElem? (i := 552) (by decide +kernel)) (by decide +kernel)
theorem wl_94 : Cond.code yX9_seed cX9_seed 2 (some .int) ∈ gw_tbl := gw_in (List.mem_of_getElem? (i := 1238) (by decide +kernel)) (by decide +kernel)
theorem wl_95 : Cond.instanceMethod yX9_seed ∈ gw_tbl := gw_in (List.mem_of_getElem? (i := 1236) (by decide +kernel)) (by decide +kernel)
theorem wl_96 : Cond.selects RX9 yX9_seed yX9_seed ∈ gw_tbl := gw_in (List.mem_of_getElem? (i := 1237) (by decide +kernel)) (by decide +kernel)
theorem wl_97 : Cond.methodLink RL 63 yX9_seed ∈ gw_tbl := gw_in (List.mem_of_getElem? (i := 1235) (by decide +kernel)) (by decide +kernel)
theorem wl_98 : Cond.code yX8_hours cX8_hours 3 (some .int) ∈ gw_tbl := gw_in (List.mem_of_getElem? (i := 559) (by decide +kernel)) (by decide +kernel)
theorem wl_99 : Cond.instanceMethod yX8_hours ∈ gw_tbl := gw_in (List.mem_of_getElem? (i := 557) (by decide +kernel)) (by decide +kernel)
theorem wl_100 : Cond.selects RX8 yX8_hours yX8_hours ∈ gw_tbl := gw_in (List.mem_of_getElem? (i := 558) (by decide +kernel)) (by decide +kernel)
theorem wl_101 : Cond.methodLink RL 64 yX8_hours ∈ gw_tbl := gw_in (List.mem_of_getElem? (i := 556) (by decide +kernel)) (by decide +kernel)
theorem wl_102 : Cond.code yX9_hours cX9_hours 4 (some .int) ∈ gw_tbl := gw_in (List.mem_of_getElem? (i := 1242) (by decide +kernel)) (by decide +kernel)
theorem wl_103 : Cond.instanceMethod yX9_hours ∈ gw_tbl := gw_in (List.mem_of_getElem? (i := 1240) (by decide +kernel)) (by decide +kernel)
theorem wl_104 : Cond.selects RX9 yX9_hours yX9_hours ∈ gw_tbl := gw_in (List.mem_of_getElem? (i := 1241) (by decide +kernel)) (by decide +kernel)
theorem wl_105 : Cond.methodLink RL 67 yX9_hours ∈ gw_tbl := gw_in (List.mem_of_getElem? (i := 1239) (by decide +kernel)) (by decide +kernel)
theorem wl_106 : Cond.code yX8_night cX8_night 2 (some .int) ∈ gw_tbl := gw_in (List.mem_of_getElem? (i := 587) (by decide +kernel)) (by decide +kernel)
theorem wl_107 : Cond.instanceMethod yX8_night ∈ gw_tbl := gw_in (List.mem_of_getElem? (i := 585) (by decide +kernel)) (by decide +kernel)
theorem wl_108 : Cond.selects RX8 yX8_night yX8_night ∈ gw_tbl := gw_in (List.mem_of_getElem? (i := 586) (by decide +kernel)) (by decide +kernel)
theorem wl_109 : Cond.methodLink RL 68 yX8_night ∈ gw_tbl := gw_in (List.mem_of_getElem? (i := 584) (by decide +kernel)) (by decide +kernel)
theorem wl_110 : Cond.code yX9_night cX9_night 2 (some .int) ∈ gw_tbl := gw_in (List.mem_of_getElem? (i := 1267) (by decide +kernel)) (by decide +kernel)
theorem wl_111 : Cond.instanceMethod yX9_night ∈ gw_tbl := gw_in (List.mem_of_getElem? (i := 1265) (by decide +kernel)) (by decide +kernel)
theorem wl_112 : Cond.selects RX9 yX9_night yX9_night ∈ gw_tbl := gw_in (List.mem_of_getElem? (i := 1266) (by decide +kernel)) (by decide +kernel)
theorem wl_113 : Cond.methodLink RL 71 yX9_night ∈ gw_tbl := gw_in (List.mem_of_getElem? (i := 1264) (by decide +kernel)) (by decide +kernel)
theorem wl_114 : Cond.code yX8_behind cX8_behind 3 (some .int) ∈ gw_tbl := gw_in (List.mem_of_getElem? (i := 592) (by decide +kernel)) (by decide +kernel)
theorem wl_115 : Cond.instanceMethod yX8_behind ∈ gw_tbl := gw_in (List.mem_of_getElem? (i := 590) (by decide +kernel)) (by decide +kernel)
theorem wl_116 : Cond.selects RX8 yX8_behind yX8_behind ∈ gw_tbl := gw_in (List.mem_of_getElem? (i := 591) (by decide +kernel)) (by decide +kernel)
theorem wl_117 : Cond.methodLink RL 72 yX8_behind ∈ gw_tbl := gw_in (List.mem_of_getElem? (i := 589) (by decide +kernel)) (by decide +kernel)
theorem wl_118 : Cond.code yX9_behind cX9_behind 4 (some .int) ∈ gw_tbl := gw_in (List.mem_of_getElem? (i := 1275) (by decide +kernel)) (by decide +kernel)
theorem wl_119 : Cond.instanceMethod yX9_behind ∈ gw_tbl := gw_in (List.mem_of_getElem? (i := 1273) (by decide +kernel)) (by decide +kernel)
theorem wl_120 : Cond.selects RX9 yX9_behind yX9_behind ∈ gw_tbl := gw_in (List.mem_of_getElem? (i := 1274) (by decide +kernel)) (by decide +kernel)
theorem wl_121 : Cond.methodLink RL 75 yX9_behind ∈ gw_tbl := gw_in (List.mem_of_getElem? (i := 1272) (by decide +kernel)) (by decide +kernel)
theorem wl_122 : Cond.code yX8_lasts cX8_lasts 2 (some .int) ∈ gw_tbl := gw_in (List.mem_of_getElem? (i := 616) (by decide +kernel)) (by decide +kernel)
theorem wl_123 : Cond.instanceMethod yX8_lasts ∈ gw_tbl := gw_in (List.mem_of_getElem? (i := 614) (by decide +kernel)) (by decide +kernel)
theorem wl_124 : Cond.selects RX8 yX8_lasts yX8_lasts ∈ gw_tbl := gw_in (List.mem_of_getElem? (i := 615) (by decide +kernel)) (by decide +kernel)
theorem wl_125 : Cond.methodLink RL 76 yX8_lasts ∈ gw_tbl := gw_in (List.mem_of_getElem? (i := 613) (by decide +kernel)) (by decide +kernel)
theorem wl_126 : Cond.code yX9_lasts cX9_lasts 3 (some .int) ∈ gw_tbl := gw_in (List.mem_of_getElem? (i := 1296) (by decide +kernel)) (by decide +kernel)
theorem wl_127 : Cond.instanceMethod yX9_lasts ∈ gw_tbl := gw_in (List.mem_of_getElem? (i := 1294) (by decide +kernel)) (by decide +kernel)
theorem wl_128 : Cond.selects RX9 yX9_lasts yX9_lasts ∈ gw_tbl := gw_in (List.mem_of_getElem? (i := 1295) (by decide +kernel)) (by decide +kernel)
theorem wl_129 : Cond.methodLink RL 80 yX9_lasts ∈ gw_tbl := gw_in (List.mem_of_getElem? (i := 1293) (by decide +kernel)) (by decide +kernel)
theorem wl_130 : Cond.code yX8_loss cX8_loss 2 (some .int) ∈ gw_tbl := gw_in (List.mem_of_getElem? (i := 622) (by decide +kernel)) (by decide +kernel)
theorem wl_131 : Cond.instanceMethod yX8_loss ∈ gw_tbl := gw_in (List.mem_of_getElem? (i := 620) (by decide +kernel)) (by decide +kernel)
theorem wl_132 : Cond.selects RX8 yX8_loss yX8_loss ∈ gw_tbl := gw_in (List.mem_of_getElem? (i := 621) (by decide +kernel)) (by decide +kernel)
theorem wl_133 : Cond.methodLink RL 81 yX8_loss ∈ gw_tbl := gw_in (List.mem_of_getElem? (i := 619) (by decide +kernel)) (by decide +kernel)
theorem wl_134 : Cond.code yX9_loss cX9_loss 3 (some .int) ∈ gw_tbl := gw_in (List.mem_of_getElem? (i := 1300) (by decide +kernel)) (by decide +kernel)
theorem wl_135 : Cond.instanceMethod yX9_loss ∈ gw_tbl := gw_in (List.mem_of_getElem? (i := 1298) (by decide +kernel)) (by decide +kernel)
theorem wl_136 : Cond.selects RX9 yX9_loss yX9_loss ∈ gw_tbl := gw_in (List.mem_of_getElem? (i := 1299) (by decide +kernel)) (by decide +kernel)
theorem wl_137 : Cond.methodLink RL 84 yX9_loss ∈ gw_tbl := gw_in (List.mem_of_getElem? (i := 1297) (by decide +kernel)) (by decide +kernel)
theorem wl_138 : Cond.code yX8_dark cX8_dark 4 (some .int) ∈ gw_tbl := gw_in (List.mem_of_getElem? (i := 626) (by decide +kernel)) (by decide +kernel)
theorem wl_139 : Cond.instanceMethod yX8_dark ∈ gw_tbl := gw_in (List.mem_of_getElem? (i := 624) (by decide +kernel)) (by decide +kernel)
theorem wl_140 : Cond.selects RX8 yX8_dark yX8_dark ∈ gw_tbl := gw_in (List.mem_of_getElem? (i := 625) (by decide +kernel)) (by decide +kernel)
theorem wl_141 : Cond.methodLink RL 85 yX8_dark ∈ gw_tbl := gw_in (List.mem_of_getElem? (i := 623) (by decide +kernel)) (by decide +kernel)
theorem wl_142 : Cond.code yX9_dark cX9_dark 4 (some .int) ∈ gw_tbl := gw_in (List.mem_of_getElem? (i := 1304) (by decide +kernel)) (by decide +kernel)
theorem wl_143 : Cond.instanceMethod yX9_dark ∈ gw_tbl := gw_in (List.mem_of_getElem? (i := 1302) (by decide +kernel)) (by decide +kernel)
theorem wl_144 : Cond.selects RX9 yX9_dark yX9_dark ∈ gw_tbl := gw_in (List.mem_of_getElem? (i := 1303) (by decide +kernel)) (by decide +kernel)
theorem wl_145 : Cond.methodLink RL 88 yX9_dark ∈ gw_tbl := gw_in (List.mem_of_getElem? (i := 1301) (by decide +kernel)) (by decide +kernel)
theorem wl_146 : Cond.code yX8_fires cX8_fires 3 (some .int) ∈ gw_tbl := gw_in (List.mem_of_getElem? (i := 630) (by decide +kernel)) (by decide +kernel)
theorem wl_147 : Cond.instanceMethod yX8_fires ∈ gw_tbl := gw_in (List.mem_of_getElem? (i := 628) (by decide +kernel)) (by decide +kernel)
theorem wl_148 : Cond.selects RX8 yX8_fires yX8_fires ∈ gw_tbl := gw_in (List.mem_of_getElem? (i := 629) (by decide +kernel)) (by decide +kernel)
theorem wl_149 : Cond.methodLink RL 89 yX8_fires ∈ gw_tbl := gw_in (List.mem_of_getElem? (i := 627) (by decide +kernel)) (by decide +kernel)
theorem wl_150 : Cond.code yX9_fires cX9_fires 9 (some .int) ∈ gw_tbl := gw_in (List.mem_of_getElem? (i := 1309) (by decide +kernel)) (by decide +kernel)
theorem wl_151 : Cond.instanceMethod yX9_fires ∈ gw_tbl := gw_in (List.mem_of_getElem? (i := 1307) (by decide +kernel)) (by decide +kernel)
theorem wl_152 : Cond.selects RX9 yX9_fires yX9_fires ∈ gw_tbl := gw_in (List.mem_of_getElem? (i := 1308) (by decide +kernel)) (by decide +kernel)
theorem wl_153 : Cond.methodLink RL 92 yX9_fires ∈ gw_tbl := gw_in (List.mem_of_getElem? (i := 1306) (by decide +kernel)) (by decide +kernel)
theorem wl_154 : Cond.code yX8_watch cX8_watch 6 (some .int) ∈ gw_tbl := gw_in (List.mem_of_getElem? (i := 649) (by decide +kernel)) (by decide +kernel)
theorem wl_155 : Cond.instanceMethod yX8_watch ∈ gw_tbl := gw_in (List.mem_of_getElem? (i := 647) (by decide +kernel)) (by decide +kernel)
theorem wl_156 : Cond.selects RX8 yX8_watch yX8_watch ∈ gw_tbl := gw_in (List.mem_of_getElem? (i := 648) (by decide +kernel)) (by decide +kernel)
theorem wl_157 : Cond.methodLink RL 93 yX8_watch ∈ gw_tbl := gw_in (List.mem_of_getElem? (i := 646) (by decide +kernel)) (by decide +kernel)
theorem wl_158 : Cond.code yX9_watch cX9_watch 7 (some .int) ∈ gw_tbl := gw_in (List.mem_of_getElem? (i := 1322) (by decide +kernel)) (by decide +kernel)
theorem wl_159 : Cond.instanceMethod yX9_watch ∈ gw_tbl := gw_in (List.mem_of_getElem? (i := 1320) (by decide +kernel)) (by decide +kernel)
theorem wl_160 : Cond.selects RX9 yX9_watch yX9_watch ∈ gw_tbl := gw_in (List.mem_of_getElem? (i := 1321) (by decide +kernel)) (by decide +kernel)
theorem wl_161 : Cond.methodLink RL 96 yX9_watch ∈ gw_tbl := gw_in (List.mem_of_getElem? (i := 1319) (by decide +kernel)) (by decide +kernel)
theorem wl_162 : Cond.code yX8_place cX8_place 6 (some .int) ∈ gw_tbl := gw_in (List.mem_of_getElem? (i := 657) (by decide +kernel)) (by decide +kernel)
theorem wl_163 : Cond.instanceMethod yX8_place ∈ gw_tbl := gw_in (List.mem_of_getElem? (i := 655) (by decide +kernel)) (by decide +kernel)
theorem wl_164 : Cond.selects RX8 yX8_place yX8_place ∈ gw_tbl := gw_in (List.mem_of_getElem? (i := 656) (by decide +kernel)) (by decide +kernel)
theorem wl_165 : Cond.methodLink RL 97 yX8_place ∈ gw_tbl := gw_in (List.mem_of_getElem? (i := 654) (by decide +kernel)) (by decide +kernel)
theorem wl_166 : Cond.code yX9_place cX9_place 7 (some .int) ∈ gw_tbl := gw_in (List.mem_of_getElem? (i := 1327) (by decide +kernel)) (by decide +kernel)
theorem wl_167 : Cond.instanceMethod yX9_place ∈ gw_tbl := gw_in (List.mem_of_getElem? (i := 1325) (by decide +kernel)) (by decide +kernel)
theorem wl_168 : Cond.selects RX9 yX9_place yX9_place ∈ gw_tbl := gw_in (List.mem_of_getElem? (i := 1326) (by decide +kernel)) (by decide +kernel)
theorem wl_169 : Cond.methodLink RL 100 yX9_place ∈ gw_tbl := gw_in (List.mem_of_getElem? (i := 1324) (by decide +kernel)) (by decide +kernel)
theorem wl_170 : Cond.code yX8_signs cX8_signs 8 (some .int) ∈ gw_tbl := gw_in (List.mem_of_getElem? (i := 661) (by decide +kernel)) (by decide +kernel)
theorem wl_171 : Cond.instanceMethod yX8_signs ∈ gw_tbl := gw_in (List.mem_of_getElem? (i := 659) (by decide +kernel)) (by decide +kernel)
theorem wl_172 : Cond.selects RX8 yX8_signs yX8_signs ∈ gw_tbl := gw_in (List.mem_of_getElem? (i := 660) (by decide +kernel)) (by decide +kernel)
theorem wl_173 : Cond.methodLink RL 101 yX8_signs ∈ gw_tbl := gw_in (List.mem_of_getElem? (i := 658) (by decide +kernel)) (by decide +kernel)
theorem wl_174 : Cond.code yX9_signs cX9_signs 10 (some .int) ∈ gw_tbl := gw_in (List.mem_of_getElem? (i := 1447) (by decide +kernel)) (by decide +kernel)
theorem wl_175 : Cond.instanceMethod yX9_signs ∈ gw_tbl := gw_in (List.mem_of_getElem? (i := 1445) (by decide +kernel)) (by decide +kernel)
theorem wl_176 : Cond.selects RX9 yX9_signs yX9_signs ∈ gw_tbl := gw_in (List.mem_of_getElem? (i := 1446) (by decide +kernel)) (by decide +kernel)
theorem wl_177 : Cond.methodLink RL 104 yX9_signs ∈ gw_tbl := gw_in (List.mem_of_getElem? (i := 1444) (by decide +kernel)) (by decide +kernel)
theorem wl_178 : Cond.code yX8_feed cX8_feed 4 (some .int) ∈ gw_tbl := gw_in (List.mem_of_getElem? (i := 676) (by decide +kernel)) (by decide +kernel)
theorem wl_179 : Cond.instanceMethod yX8_feed ∈ gw_tbl := gw_in (List.mem_of_getElem? (i := 674) (by decide +kernel)) (by decide +kernel)
theorem wl_180 : Cond.selects RX8 yX8_feed yX8_feed ∈ gw_tbl := gw_in (List.mem_of_getElem? (i := 675) (by decide +kernel)) (by decide +kernel)
theorem wl_181 : Cond.methodLink RL 105 yX8_feed ∈ gw_tbl := gw_in (List.mem_of_getElem? (i := 673) (by decide +kernel)) (by decide +kernel)
theorem wl_182 : Cond.code yX9_feed cX9_feed 6 (some .int) ∈ gw_tbl := gw_in (List.mem_of_getElem? (i := 1331) (by decide +kernel)) (by decide +kernel)
theorem wl_183 : Cond.instanceMethod yX9_feed ∈ gw_tbl := gw_in (List.mem_of_getElem? (i := 1329) (by decide +kernel)) (by decide +kernel)
theorem wl_184 : Cond.selects RX9 yX9_feed yX9_feed ∈ gw_tbl := gw_in (List.mem_of_getElem? (i := 1330) (by decide +kernel)) (by decide +kernel)
theorem wl_185 : Cond.methodLink RL 108 yX9_feed ∈ gw_tbl := gw_in (List.mem_of_getElem? (i := 1328) (by decide +kernel)) (by decide +kernel)
theorem wl_186 : Cond.code yX8_trim cX8_trim 2 (some .int) ∈ gw_tbl := gw_in (List.mem_of_getElem? (i := 685) (by decide +kernel)) (by decide +kernel)
theorem wl_187 : Cond.instanceMethod yX8_trim ∈ gw_tbl := gw_in (List.mem_of_getElem? (i := 683) (by decide +kernel)) (by decide +kernel)
theorem wl_188 : Cond.selects RX8 yX8_trim yX8_trim ∈ gw_tbl := gw_in (List.mem_of_getElem? (i := 684) (by decide +kernel)) (by decide +kernel)
theorem wl_189 : Cond.methodLink RL 109 yX8_trim ∈ gw_tbl := gw_in (List.mem_of_getElem? (i := 682) (by decide +kernel)) (by decide +kernel)
theorem wl_190 : Cond.code yX9_trim cX9_trim 2 (some .int) ∈ gw_tbl := gw_in (List.mem_of_getElem? (i := 1335) (by decide +kernel)) (by decide +kernel)
theorem wl_191 : Cond.instanceMethod yX9_trim ∈ gw_tbl := gw_in (List.mem_of_getElem? (i := 1333) (by decide +kernel)) (by decide +kernel)
theorem wl_192 : Cond.selects RX9 yX9_trim yX9_trim ∈ gw_tbl := gw_in (List.mem_of_getElem? (i := 1334) (by decide +kernel)) (by decide +kernel)
theorem wl_193 : Cond.methodLink RL 112 yX9_trim ∈ gw_tbl := gw_in (List.mem_of_getElem? (i := 1332) (by decide +kernel)) (by decide +kernel)
theorem wl_194 : Cond.code yX8_text cX8_text 3 (some .int) ∈ gw_tbl := gw_in (List.mem_of_getElem? (i := 689) (by decide +kernel)) (by decide +kernel)
theorem wl_195 : Cond.instanceMethod yX8_text ∈ gw_tbl := gw_in (List.mem_of_getElem? (i := 687) (by decide +kernel)) (by decide +kernel)
theorem wl_196 : Cond.selects RX8 yX8_text yX8_text ∈ gw_tbl := gw_in (List.mem_of_getElem? (i := 688) (by decide +kernel)) (by decide +kernel)
theorem wl_197 : Cond.methodLink RL 113 yX8_text ∈ gw_tbl := gw_in (List.mem_of_getElem? (i := 686) (by decide +kernel)) (by decide +kernel)
theorem wl_198 : Cond.code yX9_text cX9_text 3 (some .int) ∈ gw_tbl := gw_in (List.mem_of_getElem? (i := 1339) (by decide +kernel)) (by decide +kernel)
theorem wl_199 : Cond.instanceMethod yX9_text ∈ gw_tbl := gw_in (List.mem_of_getElem? (i := 1337) (by decide +kernel)) (by decide +kernel)
theorem wl_200 : Cond.selects RX9 yX9_text yX9_text ∈ gw_tbl := gw_in (List.mem_of_getElem? (i := 1338) (by decide +kernel)) (by decide +kernel)
theorem wl_201 : Cond.methodLink RL 116 yX9_text ∈ gw_tbl := gw_in (List.mem_of_getElem? (i := 1336) (by decide +kernel)) (by decide +kernel)
theorem wl_202 : Cond.code yX8_textTold cX8_textTold 3 (some .int) ∈ gw_tbl := gw_in (List.mem_of_getElem? (i := 889) (by decide +kernel)) (by decide +kernel)
theorem wl_203 : Cond.instanceMethod yX8_textTold ∈ gw_tbl := gw_in (List.mem_of_getElem? (i := 887) (by decide +kernel)) (by decide +kernel)
theorem wl_204 : Cond.selects RX8 yX8_textTold yX8_textTold ∈ gw_tbl := gw_in (List.mem_of_getElem? (i := 888) (by decide +kernel)) (by decide +kernel)
theorem wl_205 : Cond.methodLink RL 117 yX8_textTold ∈ gw_tbl := gw_in (List.mem_of_getElem? (i := 886) (by decide +kernel)) (by decide +kernel)
theorem wl_206 : Cond.code yX9_textTold cX9_textTold 3 (some .int) ∈ gw_tbl := gw_in (List.mem_of_getElem? (i := 1410) (by decide +kernel)) (by decide +kernel)
theorem wl_207 : Cond.instanceMethod yX9_textTold ∈ gw_tbl := gw_in (List.mem_of_getElem? (i := 1408) (by decide +kernel)) (by decide +kernel)
theorem wl_208 : Cond.selects RX9 yX9_textTold yX9_textTold ∈ gw_tbl := gw_in (List.mem_of_getElem? (i := 1409) (by decide +kernel)) (by decide +kernel)
theorem wl_209 : Cond.methodLink RL 120 yX9_textTold ∈ gw_tbl := gw_in (List.mem_of_getElem? (i := 1407) (by decide +kernel)) (by decide +kernel)
theorem wl_210 : Cond.code yX8_why cX8_why 2 (some .int) ∈ gw_tbl := gw_in (List.mem_of_getElem? (i := 893) (by decide +kernel)) (by decide +kernel)
theorem wl_211 : Cond.instanceMethod yX8_why ∈ gw_tbl := gw_in (List.mem_of_getElem? (i := 891) (by decide +kernel)) (by decide +kernel)
theorem wl_212 : Cond.selects RX8 yX8_why yX8_why ∈ gw_tbl := gw_in (List.mem_of_getElem? (i := 892) (by decide +kernel)) (by decide +kernel)
theorem wl_213 : Cond.methodLink RL 121 yX8_why ∈ gw_tbl := gw_in (List.mem_of_getElem? (i := 890) (by decide +kernel)) (by decide +kernel)
theorem wl_214 : Cond.code yX9_why cX9_why 2 (some .int) ∈ gw_tbl := gw_in (List.mem_of_getElem? (i := 1418) (by decide +kernel)) (by decide +kernel)
theorem wl_215 : Cond.instanceMethod yX9_why ∈ gw_tbl := gw_in (List.mem_of_getElem? (i := 1416) (by decide +kernel)) (by decide +kernel)
theorem wl_216 : Cond.selects RX9 yX9_why yX9_why ∈ gw_tbl := gw_in (List.mem_of_getElem? (i := 1417) (by decide +kernel)) (by decide +kernel)
theorem wl_217 : Cond.methodLink RL 124 yX9_why ∈ gw_tbl := gw_in (List.mem_of_getElem? (i := 1415) (by decide +kernel)) (by decide +kernel)
theorem wl_218 : Cond.code yX8_sheet cX8_sheet 4 (some .int) ∈ gw_tbl := gw_in (List.mem_of_getElem? (i := 897) (by decide +kernel)) (by decide +kernel)
theorem wl_219 : Cond.instanceMethod yX8_sheet ∈ gw_tbl := gw_in (List.mem_of_getElem? (i := 895) (by decide +kernel)) (by decide +kernel)
theorem wl_220 : Cond.selects RX8 yX8_sheet yX8_sheet ∈ gw_tbl := gw_in (List.mem_of_getElem? (i := 896) (by decide +kernel)) (by decide +kernel)
theorem wl_221 : Cond.methodLink RL 125 yX8_sheet ∈ gw_tbl := gw_in (List.mem_of_getElem? (i := 894) (by decide +kernel)) (by decide +kernel)
theorem wl_222 : Cond.code yX9_sheet cX9_sheet 5 (some .int) ∈ gw_tbl := gw_in (List.mem_of_getElem? (i := 1422) (by decide +kernel)) (by decide +kernel)
theorem wl_223 : Cond.instanceMethod yX9_sheet ∈ gw_tbl := gw_in (List.mem_of_getElem? (i := 1420) (by decide +kernel)) (by decide +kernel)
theorem wl_224 : Cond.selects RX9 yX9_sheet yX9_sheet ∈ gw_tbl := gw_in (List.mem_of_getElem? (i := 1421) (by decide +kernel)) (by decide +kernel)
theorem wl_225 : Cond.methodLink RL 128 yX9_sheet ∈ gw_tbl := gw_in (List.mem_of_getElem? (i := 1419) (by decide +kernel)) (by decide +kernel)
theorem wl_226 : Cond.code yX8_mark cX8_mark 5 (some .int) ∈ gw_tbl := gw_in (List.mem_of_getElem? (i := 909) (by decide +kernel)) (by decide +kernel)
theorem wl_227 : Cond.instanceMethod yX8_mark ∈ gw_tbl := gw_in (List.mem_of_getElem? (i := 907) (by decide +kernel)) (by decide +kernel)
theorem wl_228 : Cond.selects RX8 yX8_mark yX8_mark ∈ gw_tbl := gw_in (List.mem_of_getElem? (i := 908) (by decide +kernel)) (by decide +kernel)
theorem wl_229 : Cond.methodLink RL 129 yX8_mark ∈ gw_tbl := gw_in (List.mem_of_getElem? (i := 906) (by decide +kernel)) (by decide +kernel)
theorem wl_230 : Cond.code yX9_mark cX9_mark 4 (some .int) ∈ gw_tbl := gw_in (List.mem_of_getElem? (i := 1431) (by decide +kernel)) (by decide +kernel)
theorem wl_231 : Cond.instanceMethod yX9_mark ∈ gw_tbl := gw_in (List.mem_of_getElem? (i := 1429) (by decide +kernel)) (by decide +kernel)
theorem wl_232 : Cond.selects RX9 yX9_mark yX9_mark ∈ gw_tbl := gw_in (List.mem_of_getElem? (i := 1430) (by decide +kernel)) (by decide +kernel)
theorem wl_233 : Cond.methodLink RL 132 yX9_mark ∈ gw_tbl := gw_in (List.mem_of_getElem? (i := 1428) (by decide +kernel)) (by decide +kernel)
theorem wl_234 : Cond.code yX8_pour cX8_pour 6 (some .int) ∈ gw_tbl := gw_in (List.mem_of_getElem? (i := 921) (by decide +kernel)) (by decide +kernel)
theorem wl_235 : Cond.instanceMethod yX8_pour ∈ gw_tbl := gw_in (List.mem_of_getElem? (i := 919) (by decide +kernel)) (by decide +kernel)
theorem wl_236 : Cond.selects RX8 yX8_pour yX8_pour ∈ gw_tbl := gw_in (List.mem_of_getElem? (i := 920) (by decide +kernel)) (by decide +kernel)
theorem wl_237 : Cond.methodLink RL 133 yX8_pour ∈ gw_tbl := gw_in (List.mem_of_getElem? (i := 918) (by decide +kernel)) (by decide +kernel)
theorem wl_238 : Cond.code yX9_pour cX9_pour 6 (some .int) ∈ gw_tbl := gw_in (List.mem_of_getElem? (i := 1439) (by decide +kernel)) (by decide +kernel)
theorem wl_239 : Cond.instanceMethod yX9_pour ∈ gw_tbl := gw_in (List.mem_of_getElem? (i := 1437) (by decide +kernel)) (by decide +kernel)
theorem wl_240 : Cond.selects RX9 yX9_pour yX9_pour ∈ gw_tbl := gw_in (List.mem_of_getElem? (i := 1438) (by decide +kernel)) (by decide +kernel)
theorem wl_241 : Cond.methodLink RL 136 yX9_pour ∈ gw_tbl := gw_in (List.mem_of_getElem? (i := 1436) (by decide +kernel)) (by decide +kernel)
theorem wl_242 : Cond.code yX8_reads cX8_reads 5 (some .int) ∈ gw_tbl := gw_in (List.mem_of_getElem? (i := 926) (by decide +kernel)) (by decide +kernel)
theorem wl_243 : Cond.instanceMethod yX8_reads ∈ gw_tbl := gw_in (List.mem_of_getElem? (i := 924) (by decide +kernel)) (by decide +kernel)
theorem wl_244 : Cond.selects RX8 yX8_reads yX8_reads ∈ gw_tbl := gw_in (List.mem_of_getElem? (i := 925) (by decide +kernel)) (by decide +kernel)
theorem wl_245 : Cond.methodLink RL 137 yX8_reads ∈ gw_tbl := gw_in (List.mem_of_getElem? (i := 923) (by decide +kernel)) (by decide +kernel)
theorem wl_246 : Cond.code yX9_reads cX9_reads 4 (some .int) ∈ gw_tbl := gw_in (List.mem_of_getElem? (i := 1443) (by decide +kernel)) (by decide +kernel)
theorem wl_247 : Cond.instanceMethod yX9_reads ∈ gw_tbl := gw_in (List.mem_of_getElem? (i := 1441) (by decide +kernel)) (by decide +kernel)
theorem wl_248 : Cond.selects RX9 yX9_reads yX9_reads ∈ gw_tbl := gw_in (List.mem_of_getElem? (i := 1442) (by decide +kernel)) (by decide +kernel)
theorem wl_249 : Cond.methodLink RL 140 yX9_reads ∈ gw_tbl := gw_in (List.mem_of_getElem? (i := 1440) (by decide +kernel)) (by decide +kernel)
theorem wl_250 : Cond.code yX8_copy cX8_copy 8 (some .int) ∈ gw_tbl := gw_in (List.mem_of_getElem? (i := 930) (by decide +kernel)) (by decide +kernel)
theorem wl_251 : Cond.instanceMethod yX8_copy ∈ gw_tbl := gw_in (List.mem_of_getElem? (i := 928) (by decide +kernel)) (by decide +kernel)
theorem wl_252 : Cond.selects RX8 yX8_copy yX8_copy ∈ gw_tbl := gw_in (List.mem_of_getElem? (i := 929) (by decide +kernel)) (by decide +kernel)
theorem wl_253 : Cond.methodLink RL 141 yX8_copy ∈ gw_tbl := gw_in (List.mem_of_getElem? (i := 927) (by decide +kernel)) (by decide +kernel)
theorem wl_254 : Cond.code yX9_copy cX9_copy 7 (some .int) ∈ gw_tbl := gw_in (List.mem_of_getElem? (i := 1451) (by decide +kernel)) (by decide +kernel)
theorem wl_255 : Cond.instanceMethod yX9_copy ∈ gw_tbl := gw_in (List.mem_of_getElem? (i := 1449) (by decide +kernel)) (by decide +kernel)
theorem wl_256 : Cond.selects RX9 yX9_copy yX9_copy ∈ gw_tbl := gw_in (List.mem_of_getElem? (i := 1450) (by decide +kernel)) (by decide +kernel)
theorem wl_257 : Cond.methodLink RL 145 yX9_copy ∈ gw_tbl := gw_in (List.mem_of_getElem? (i := 1448) (by decide +kernel)) (by decide +kernel)
theorem wl_258 : Cond.code yX8_lay cX8_lay 6 (some .int) ∈ gw_tbl := gw_in (List.mem_of_getElem? (i := 939) (by decide +kernel)) (by decide +kernel)
theorem wl_259 : Cond.instanceMethod yX8_lay ∈ gw_tbl := gw_in (List.mem_of_getElem? (i := 937) (by decide +kernel)) (by decide +kernel)
theorem wl_260 : Cond.selects RX8 yX8_lay yX8_lay ∈ gw_tbl := gw_in (List.mem_of_getElem? (i := 938) (by decide +kernel)) (by decide +kernel)
theorem wl_261 : Cond.methodLink RL 146 yX8_lay ∈ gw_tbl := gw_in (List.mem_of_getElem? (i := 936) (by decide +kernel)) (by decide +kernel)
theorem wl_262 : Cond.code yX9_lay cX9_lay 7 (some .int) ∈ gw_tbl := gw_in (List.mem_of_getElem? (i := 1455) (by decide +kernel)) (by decide +kernel)
theorem wl_263 : Cond.instanceMethod yX9_lay ∈ gw_tbl := gw_in (List.mem_of_getElem? (i := 1453) (by decide +kernel)) (by decide +kernel)
theorem wl_264 : Cond.selects RX9 yX9_lay yX9_lay ∈ gw_tbl := gw_in (List.mem_of_getElem? (i := 1454) (by decide +kernel)) (by decide +kernel)
theorem wl_265 : Cond.methodLink RL 149 yX9_lay ∈ gw_tbl := gw_in (List.mem_of_getElem? (i := 1452) (by decide +kernel)) (by decide +kernel)
theorem wl_266 : Cond.code yX8_ask cX8_ask 4 (some .int) ∈ gw_tbl := gw_in (List.mem_of_getElem? (i := 952) (by decide +kernel)) (by decide +kernel)
theorem wl_267 : Cond.instanceMethod yX8_ask ∈ gw_tbl := gw_in (List.mem_of_getElem? (i := 950) (by decide +kernel)) (by decide +kernel)
theorem wl_268 : Cond.selects RX8 yX8_ask yX8_ask ∈ gw_tbl := gw_in (List.mem_of_getElem? (i := 951) (by decide +kernel)) (by decide +kernel)
theorem wl_269 : Cond.methodLink RL 150 yX8_ask ∈ gw_tbl := gw_in (List.mem_of_getElem? (i := 949) (by decide +kernel)) (by decide +kernel)
theorem wl_270 : Cond.code yX9_ask cX9_ask 3 (some .int) ∈ gw_tbl := gw_in (List.mem_of_getElem? (i := 1463) (by decide +kernel)) (by decide +kernel)
theorem wl_271 : Cond.instanceMethod yX9_ask ∈ gw_tbl := gw_in (List.mem_of_getElem? (i := 1461) (by decide +kernel)) (by decide +kernel)
theorem wl_272 : Cond.selects RX9 yX9_ask yX9_ask ∈ gw_tbl := gw_in (List.mem_of_getElem? (i := 1462) (by decide +kernel)) (by decide +kernel)
theorem wl_273 : Cond.methodLink RL 153 yX9_ask ∈ gw_tbl := gw_in (List.mem_of_getElem? (i := 1460) (by decide +kernel)) (by decide +kernel)
theorem wl_274 : Cond.code yX8_item cX8_item 5 (some .int) ∈ gw_tbl := gw_in (List.mem_of_getElem? (i := 956) (by decide +kernel)) (by decide +kernel)
theorem wl_275 : Cond.instanceMethod yX8_item ∈ gw_tbl := gw_in (List.mem_of_getElem? (i := 954) (by decide +kernel)) (by decide +kernel)
theorem wl_276 : Cond.selects RX8 yX8_item yX8_item ∈ gw_tbl := gw_in (List.mem_of_getElem? (i := 955) (by decide +kernel)) (by decide +kernel)
theorem wl_277 : Cond.methodLink RL 154 yX8_item ∈ gw_tbl := gw_in (List.mem_of_getElem? (i := 953) (by decide +kernel)) (by decide +kernel)
theorem wl_278 : Cond.code yX9_item cX9_item 4 (some .int) ∈ gw_tbl := gw_in (List.mem_of_getElem? (i := 1467) (by decide +kernel)) (by decide +kernel)
theorem wl_279 : Cond.instanceMethod yX9_item ∈ gw_tbl := gw_in (List.mem_of_getElem? (i := 1465) (by decide +kernel)) (by decide +kernel)
theorem wl_280 : Cond.selects RX9 yX9_item yX9_item ∈ gw_tbl := gw_in (List.mem_of_getElem? (i := 1466) (by decide +kernel)) (by decide +kernel)
theorem wl_281 : Cond.methodLink RL 157 yX9_item ∈ gw_tbl := gw_in (List.mem_of_getElem? (i := 1464) (by decide +kernel)) (by decide +kernel)
theorem wl_282 : Cond.code yX8_rest cX8_rest 4 (some .int) ∈ gw_tbl := gw_in (List.mem_of_getElem? (i := 960) (by decide +kernel)) (by decide +kernel)
theorem wl_283 : Cond.instanceMethod yX8_rest ∈ gw_tbl := gw_in (List.mem_of_getElem? (i := 958) (by decide +kernel)) (by decide +kernel)
theorem wl_284 : Cond.selects RX8 yX8_rest yX8_rest ∈ gw_tbl := gw_in (List.mem_of_getElem? (i := 959) (by decide +kernel)) (by decide +kernel)
theorem wl_285 : Cond.methodLink RL 158 yX8_rest ∈ gw_tbl := gw_in (List.mem_of_getElem? (i := 957) (by decide +kernel)) (by decide +kernel)
theorem wl_286 : Cond.code yX9_rest cX9_rest 3 (some .int) ∈ gw_tbl := gw_in (List.mem_of_getElem? (i := 1471) (by decide +kernel)) (by decide +kernel)
theorem wl_287 : Cond.instanceMethod yX9_rest ∈ gw_tbl := gw_in (List.mem_of_getElem? (i := 1469) (by decide +kernel)) (by decide +kernel)
theorem wl_288 : Cond.selects RX9 yX9_rest yX9_rest ∈ gw_tbl := gw_in (List.mem_of_getElem? (i := 1470) (by decide +kernel)) (by decide +kernel)
theorem wl_289 : Cond.methodLink RL 161 yX9_rest ∈ gw_tbl := gw_in (List.mem_of_getElem? (i := 1468) (by decide +kernel)) (by decide +kernel)
theorem wl_290 : Cond.code yX8_tell cX8_tell 2 (some .int) ∈ gw_tbl := gw_in (List.mem_of_getElem? (i := 965) (by decide +kernel)) (by decide +kernel)
theorem wl_291 : Cond.instanceMethod yX8_tell ∈ gw_tbl := gw_in (List.mem_of_getElem? (i := 963) (by decide +kernel)) (by decide +kernel)
theorem wl_292 : Cond.selects RX8 yX8_tell yX8_tell ∈ gw_tbl := gw_in (List.mem_of_getElem? (i := 964) (by decide +kernel)) (by decide +kernel)
theorem wl_293 : Cond.methodLink RL 162 yX8_tell ∈ gw_tbl := gw_in (List.mem_of_getElem? (i := 962) (by decide +kernel)) (by decide +kernel)
theorem wl_294 : Cond.code yX9_tell cX9_tell 2 (some .int) ∈ gw_tbl := gw_in (List.mem_of_getElem? (i := 1476) (by decide +kernel)) (by decide +kernel)
theorem wl_295 : Cond.instanceMethod yX9_tell ∈ gw_tbl := gw_in (List.mem_of_getElem? (i := 1474) (by decide +kernel)) (by decide +kernel)
theorem wl_296 : Cond.selects RX9 yX9_tell yX9_tell ∈ gw_tbl := gw_in (List.mem_of_getElem? (i := 1475) (by decide +kernel)) (by decide +kernel)
theorem wl_297 : Cond.methodLink RL 165 yX9_tell ∈ gw_tbl := gw_in (List.mem_of_getElem? (i := 1473) (by decide +kernel)) (by decide +kernel)
theorem wl_298 : Cond.code yX8_check cX8_check 6 (some .int) ∈ gw_tbl := gw_in (List.mem_of_getElem? (i := 969) (by decide +kernel)) (by decide +kernel)
theorem wl_299 : Cond.instanceMethod yX8_check ∈ gw_tbl := gw_in (List.mem_of_getElem? (i := 967) (by decide +kernel)) (by decide +kernel)
theorem wl_300 : Cond.selects RX8 yX8_check yX8_check ∈ gw_tbl := gw_in (List.mem_of_getElem? (i := 968) (by decide +kernel)) (by decide +kernel)
theorem wl_301 : Cond.methodLink RL 166 yX8_check ∈ gw_tbl := gw_in (List.mem_of_getElem? (i := 966) (by decide +kernel)) (by decide +kernel)
theorem wl_302 : Cond.code yX9_check cX9_check 5 (some .int) ∈ gw_tbl := gw_in (List.mem_of_getElem? (i := 1480) (by decide +kernel)) (by decide +kernel)
theorem wl_303 : Cond.instanceMethod yX9_check ∈ gw_tbl := gw_in (List.mem_of_getElem? (i := 1478) (by decide +kernel)) (by decide +kernel)
theorem wl_304 : Cond.selects RX9 yX9_check yX9_check ∈ gw_tbl := gw_in (List.mem_of_getElem? (i := 1479) (by decide +kernel)) (by decide +kernel)
theorem wl_305 : Cond.methodLink RL 169 yX9_check ∈ gw_tbl := gw_in (List.mem_of_getElem? (i := 1477) (by decide +kernel)) (by decide +kernel)
theorem wl_306 : Cond.code yX8_keep cX8_keep 1 (some .int) ∈ gw_tbl := gw_in (List.mem_of_getElem? (i := 977) (by decide +kernel)) (by decide +kernel)
theorem wl_307 : Cond.instanceMethod yX8_keep ∈ gw_tbl := gw_in (List.mem_of_getElem? (i := 975) (by decide +kernel)) (by decide +kernel)
theorem wl_308 : Cond.selects RX8 yX8_keep yX8_keep ∈ gw_tbl := gw_in (List.mem_of_getElem? (i := 976) (by decide +kernel)) (by decide +kernel)
theorem wl_309 : Cond.methodLink RL 170 yX8_keep ∈ gw_tbl := gw_in (List.mem_of_getElem? (i := 974) (by decide +kernel)) (by decide +kernel)
theorem wl_310 : Cond.code yX9_keep cX9_keep 1 (some .int) ∈ gw_tbl := gw_in (List.mem_of_getElem? (i := 1489) (by decide +kernel)) (by decide +kernel)
theorem wl_311 : Cond.instanceMethod yX9_keep ∈ gw_tbl := gw_in (List.mem_of_getElem? (i := 1487) (by decide +kernel)) (by decide +kernel)
theorem wl_312 : Cond.selects RX9 yX9_keep yX9_keep ∈ gw_tbl := gw_in (List.mem_of_getElem? (i := 1488) (by decide +kernel)) (by decide +kernel)
theorem wl_313 : Cond.methodLink RL 173 yX9_keep ∈ gw_tbl := gw_in (List.mem_of_getElem? (i := 1486) (by decide +kernel)) (by decide +kernel)
theorem wl_314 : Cond.code yX8_back cX8_back 1 (some .int) ∈ gw_tbl := gw_in (List.mem_of_getElem? (i := 981) (by decide +kernel)) (by decide +kernel)
theorem wl_315 : Cond.instanceMethod yX8_back ∈ gw_tbl := gw_in (List.mem_of_getElem? (i := 979) (by decide +kernel)) (by decide +kernel)
theorem wl_316 : Cond.selects RX8 yX8_back yX8_back ∈ gw_tbl := gw_in (List.mem_of_getElem? (i := 980) (by decide +kernel)) (by decide +kernel)
theorem wl_317 : Cond.methodLink RL 174 yX8_back ∈ gw_tbl := gw_in (List.mem_of_getElem? (i := 978) (by decide +kernel)) (by decide +kernel)
theorem wl_318 : Cond.code yX9_back cX9_back 1 (some .int) ∈ gw_tbl := gw_in (List.mem_of_getElem? (i := 1493) (by decide +kernel)) (by decide +kernel)
theorem wl_319 : Cond.instanceMethod yX9_back ∈ gw_tbl := gw_in (List.mem_of_getElem? (i := 1491) (by decide +kernel)) (by decide +kernel)
theorem wl_320 : Cond.selects RX9 yX9_back yX9_back ∈ gw_tbl := gw_in (List.mem_of_getElem? (i := 1492) (by decide +kernel)) (by decide +kernel)
theorem wl_321 : Cond.methodLink RL 177 yX9_back ∈ gw_tbl := gw_in (List.mem_of_getElem? (i := 1490) (by decide +kernel)) (by decide +kernel)
theorem wl_322 : Cond.code yX8_count cX8_count 2 (some .int) ∈ gw_tbl := gw_in (List.mem_of_getElem? (i := 985) (by decide +kernel)) (by decide +kernel)
theorem wl_323 : Cond.instanceMethod yX8_count ∈ gw_tbl := gw_in (List.mem_of_getElem? (i := 983) (by decide +kernel)) (by decide +kernel)
theorem wl_324 : Cond.selects RX8 yX8_count yX8_count ∈ gw_tbl := gw_in (List.mem_of_getElem? (i := 984) (by decide +kernel)) (by decide +kernel)
theorem wl_325 : Cond.methodLink RL 178 yX8_count ∈ gw_tbl := gw_in (List.mem_of_getElem? (i := 982) (by decide +kernel)) (by decide +kernel)
theorem wl_326 : Cond.code yX9_count cX9_count 2 (some .int) ∈ gw_tbl := gw_in (List.mem_of_getElem? (i := 1497) (by decide +kernel)) (by decide +kernel)
theorem wl_327 : Cond.instanceMethod yX9_count ∈ gw_tbl := gw_in (List.mem_of_getElem? (i := 1495) (by decide +kernel)) (by decide +kernel)
theorem wl_328 : Cond.selects RX9 yX9_count yX9_count ∈ gw_tbl := gw_in (List.mem_of_getElem? (i := 1496) (by decide +kernel)) (by decide +kernel)
theorem wl_329 : Cond.methodLink RL 181 yX9_count ∈ gw_tbl := gw_in (List.mem_of_getElem? (i := 1494) (by decide +kernel)) (by decide +kernel)
theorem mvl_X8_wagon : wf_MV mX8_wagon 1 := ⟨⟨wl_0, wl_1, ⟨by decide +kernel, by decide +kernel, by decide +kernel⟩, by decide⟩, wl_2, wl_3⟩
theorem mvl_X9_wagon : wf_MV mX9_wagon 1 := ⟨⟨wl_5, wl_6, ⟨by decide +kernel, by decide +kernel, by decide +kernel⟩, by decide⟩, wl_7, wl_8⟩
theorem mvl_X8_at : wf_MV mX8_at 2 := ⟨⟨wl_10, wl_1, ⟨by decide +kernel, by decide +kernel, by decide +kernel⟩, by decide⟩, wl_11, wl_12⟩
theorem mvl_X9_at : wf_MV mX9_at 2 := ⟨⟨wl_14, wl_6, ⟨by decide +kernel, by decide +kernel, by decide +kernel⟩, by decide⟩, wl_15, wl_16⟩
theorem mvl_X8_lays : wf_MV mX8_lays 3 := ⟨⟨wl_18, wl_1, ⟨by decide +kernel, by decide +kernel, by decide +kernel⟩, by decide⟩, wl_19, wl_20⟩
theorem mvl_X9_lays : wf_MV mX9_lays 3 := ⟨⟨wl_22, wl_6, ⟨by decide +kernel, by decide +kernel, by decide +kernel⟩, by decide⟩, wl_23, wl_24⟩
theorem mvl_X8_far : wf_MV mX8_far 2 := ⟨⟨wl_26, wl_1, ⟨by decide +kernel, by decide +kernel, by decide +kernel⟩, by decide⟩, wl_27, wl_28⟩
theorem mvl_X9_far : wf_MV mX9_far 2 := ⟨⟨wl_30, wl_6, ⟨by decide +kernel, by decide +kernel, by decide +kernel⟩, by decide⟩, wl_31, wl_32⟩
theorem mvl_X8_plain : wf_MV mX8_plain 2 := ⟨⟨wl_34, wl_1, ⟨by decide +kernel, by decide +kernel, by decide +kernel⟩, by decide⟩, wl_35, wl_36⟩
theorem mvl_X9_plain : wf_MV mX9_plain 2 := ⟨⟨wl_38, wl_6, ⟨by decide +kernel, by decide +kernel, by decide +kernel⟩, by decide⟩, wl_39, wl_40⟩
theorem mvl_X8_watcher : wf_MV mX8_watcher 3 := ⟨⟨wl_42, wl_1, ⟨by decide +kernel, by decide +kernel, by decide +kernel⟩, by decide⟩, wl_43, wl_44⟩
theorem mvl_X9_watcher : wf_MV mX9_watcher 3 := ⟨⟨wl_46, wl_6, ⟨by decide +kernel, by decide +kernel, by decide +kernel⟩, by decide⟩, wl_47, wl_48⟩
theorem mvl_X8_told : wf_MV mX8_told 2 := ⟨⟨wl_50, wl_1, ⟨by decide +kernel, by decide +kernel, by decide +kernel⟩, by decide⟩, wl_51, wl_52⟩
theorem mvl_X9_told : wf_MV mX9_told 2 := ⟨⟨wl_54, wl_6, ⟨by decide +kernel, by decide +kernel, by decide +kernel⟩, by decide⟩, wl_55, wl_56⟩
theorem mvl_X8_as : wf_MV mX8_as 2 := ⟨⟨wl_58, wl_1, ⟨by decide +kernel, by decide +kernel, by decide +kernel⟩, by decide⟩, wl_59, wl_60⟩
theorem mvl_X9_as : wf_MV mX9_as 2 := ⟨⟨wl_62, wl_6, ⟨by decide +kernel, by decide +kernel, by decide +kernel⟩, by decide⟩, wl_63, wl_64⟩
theorem mvl_X8_turns : wf_MV mX8_turns 2 := ⟨⟨wl_66, wl_1, ⟨by decide +kernel, by decide +kernel, by decide +kernel⟩, by decide⟩, wl_67, wl_68⟩
theorem mvl_X9_turns : wf_MV mX9_turns 2 := ⟨⟨wl_70, wl_6, ⟨by decide +kernel, by decide +kernel, by decide +kernel⟩, by decide⟩, wl_71, wl_72⟩
theorem mvl_X8_set : wf_MV mX8_set 3 := ⟨⟨wl_74, wl_1, ⟨by decide +kernel, by decide +kernel, by decide +kernel⟩, by decide⟩, wl_75, wl_76⟩
theorem mvl_X9_set : wf_MV mX9_set 3 := ⟨⟨wl_78, wl_6, ⟨by decide +kernel, by decide +kernel, by decide +kernel⟩, by decide⟩, wl_79, wl_80⟩
theorem mvl_X8_deal : wf_MV mX8_deal 1 := ⟨⟨wl_82, wl_1, ⟨by decide +kernel, by decide +kernel, by decide +kernel⟩, by decide⟩, wl_83, wl_84⟩
theorem mvl_X9_deal : wf_MV mX9_deal 1 := ⟨⟨wl_86, wl_6, ⟨by decide +kernel, by decide +kernel, by decide +kernel⟩, by decide⟩, wl_87, wl_88⟩
theorem mvl_X8_seed : wf_MV mX8_seed 1 := ⟨⟨wl_90, wl_1, ⟨by decide +kernel, by decide +kernel, by decide +kernel⟩, by decide⟩, wl_91, wl_92⟩
theorem mvl_X9_seed : wf_MV mX9_seed 1 := ⟨⟨wl_94, wl_6, ⟨by decide +kernel, by decide +kernel, by decide +kernel⟩, by decide⟩, wl_95, wl_96⟩
theorem mvl_X8_hours : wf_MV mX8_hours 1 := ⟨⟨wl_98, wl_1, ⟨by decide +kernel, by decide +kernel, by decide +kernel⟩, by decide⟩, wl_99, wl_100⟩
theorem mvl_X9_hours : wf_MV mX9_hours 1 := ⟨⟨wl_102, wl_6, ⟨by decide +kernel, by decide +kernel, by decide +kernel⟩, by decide⟩, wl_103, wl_104⟩
theorem mvl_X8_night : wf_MV mX8_night 1 := ⟨⟨wl_106, wl_1, ⟨by decide +kernel, by decide +kernel, by decide +kernel⟩, by decide⟩, wl_107, wl_108⟩
theorem mvl_X9_night : wf_MV mX9_night 1 := ⟨⟨wl_110, wl_6, ⟨by decide +kernel, by decide +kernel, by decide +kernel⟩, by decide⟩, wl_111, wl_112⟩
theorem mvl_X8_behind : wf_MV mX8_behind 2 := ⟨⟨wl_114, wl_1, ⟨by decide +kernel, by decide +kernel, by decide +kernel⟩, by decide⟩, wl_115, wl_116⟩
theorem mvl_X9_behind : wf_MV mX9_behind 2 := ⟨⟨wl_118, wl_6, ⟨by decide +kernel, by decide +kernel, by decide +kernel⟩, by decide⟩, wl_119, wl_120⟩
theorem mvl_X8_lasts : wf_MV mX8_lasts 0 := ⟨⟨wl_122, wl_1, ⟨by decide +kernel, by decide +kernel, by decide +kernel⟩, by decide⟩, wl_123, wl_124⟩
theorem mvl_X9_lasts : wf_MV mX9_lasts 0 := ⟨⟨wl_126, wl_6, ⟨by decide +kernel, by decide +kernel, by decide +kernel⟩, by decide⟩, wl_127, wl_128⟩
theorem mvl_X8_loss : wf_MV mX8_loss 0 := ⟨⟨wl_130, wl_1, ⟨by decide +kernel, by decide +kernel, by decide +kernel⟩, by decide⟩, wl_131, wl_132⟩
theorem mvl_X9_loss : wf_MV mX9_loss 0 := ⟨⟨wl_134, wl_6, ⟨by decide +kernel, by decide +kernel, by decide +kernel⟩, by decide⟩, wl_135, wl_136⟩
theorem mvl_X8_dark : wf_MV mX8_dark 1 := ⟨⟨wl_138, wl_1, ⟨by decide +kernel, by decide +kernel, by decide +kernel⟩, by decide⟩, wl_139, wl_140⟩
theorem mvl_X9_dark : wf_MV mX9_dark 1 := ⟨⟨wl_142, wl_6, ⟨by decide +kernel, by decide +kernel, by decide +kernel⟩, by decide⟩, wl_143, wl_144⟩
theorem mvl_X8_fires : wf_MV mX8_fires 2 := ⟨⟨wl_146, wl_1, ⟨by decide +kernel, by decide +kernel, by decide +kernel⟩, by decide⟩, wl_147, wl_148⟩
theorem mvl_X9_fires : wf_MV mX9_fires 2 := ⟨⟨wl_150, wl_6, ⟨by decide +kernel, by decide +kernel, by decide +kernel⟩, by decide⟩, wl_151, wl_152⟩
theorem mvl_X8_watch : wf_MV mX8_watch 2 := ⟨⟨wl_154, wl_1, ⟨by decide +kernel, by decide +kernel, by decide +kernel⟩, by decide⟩, wl_155, wl_156⟩
theorem mvl_X9_watch : wf_MV mX9_watch 2 := ⟨⟨wl_158, wl_6, ⟨by decide +kernel, by decide +kernel, by decide +kernel⟩, by decide⟩, wl_159, wl_160⟩
theorem mvl_X8_place : wf_MV mX8_place 2 := ⟨⟨wl_162, wl_1, ⟨by decide +kernel, by decide +kernel, by decide +kernel⟩, by decide⟩, wl_163, wl_164⟩
theorem mvl_X9_place : wf_MV mX9_place 2 := ⟨⟨wl_166, wl_6, ⟨by decide +kernel, by decide +kernel, by decide +kernel⟩, by decide⟩, wl_167, wl_168⟩
theorem mvl_X8_signs : wf_MV mX8_signs 3 := ⟨⟨wl_170, wl_1, ⟨by decide +kernel, by decide +kernel, by decide +kernel⟩, by decide⟩, wl_171, wl_172⟩
theorem mvl_X9_signs : wf_MV mX9_signs 3 := ⟨⟨wl_174, wl_6, ⟨by decide +kernel, by decide +kernel, by decide +kernel⟩, by decide⟩, wl_175, wl_176⟩
theorem mvl_X8_feed : wf_MV mX8_feed 3 := ⟨⟨wl_178, wl_1, ⟨by decide +kernel, by decide +kernel, by decide +kernel⟩, by decide⟩, wl_179, wl_180⟩
theorem mvl_X9_feed : wf_MV mX9_feed 3 := ⟨⟨wl_182, wl_6, ⟨by decide +kernel, by decide +kernel, by decide +kernel⟩, by decide⟩, wl_183, wl_184⟩
theorem mvl_X8_trim : wf_MV mX8_trim 1 := ⟨⟨wl_186, wl_1, ⟨by decide +kernel, by decide +kernel, by decide +kernel⟩, by decide⟩, wl_187, wl_188⟩
theorem mvl_X9_trim : wf_MV mX9_trim 1 := ⟨⟨wl_190, wl_6, ⟨by decide +kernel, by decide +kernel, by decide +kernel⟩, by decide⟩, wl_191, wl_192⟩
theorem mvl_X8_text : wf_MV mX8_text 0 := ⟨⟨wl_194, wl_1, ⟨by decide +kernel, by decide +kernel, by decide +kernel⟩, by decide⟩, wl_195, wl_196⟩
theorem mvl_X9_text : wf_MV mX9_text 0 := ⟨⟨wl_198, wl_6, ⟨by decide +kernel, by decide +kernel, by decide +kernel⟩, by decide⟩, wl_199, wl_200⟩
theorem mvl_X8_textTold : wf_MV mX8_textTold 2 := ⟨⟨wl_202, wl_1, ⟨by decide +kernel, by decide +kernel, by decide +kernel⟩, by decide⟩, wl_203, wl_204⟩
theorem mvl_X9_textTold : wf_MV mX9_textTold 2 := ⟨⟨wl_206, wl_6, ⟨by decide +kernel, by decide +kernel, by decide +kernel⟩, by decide⟩, wl_207, wl_208⟩
theorem mvl_X8_why : wf_MV mX8_why 1 := ⟨⟨wl_210, wl_1, ⟨by decide +kernel, by decide +kernel, by decide +kernel⟩, by decide⟩, wl_211, wl_212⟩
theorem mvl_X9_why : wf_MV mX9_why 1 := ⟨⟨wl_214, wl_6, ⟨by decide +kernel, by decide +kernel, by decide +kernel⟩, by decide⟩, wl_215, wl_216⟩
theorem mvl_X8_sheet : wf_MV mX8_sheet 3 := ⟨⟨wl_218, wl_1, ⟨by decide +kernel, by decide +kernel, by decide +kernel⟩, by decide⟩, wl_219, wl_220⟩
theorem mvl_X9_sheet : wf_MV mX9_sheet 3 := ⟨⟨wl_222, wl_6, ⟨by decide +kernel, by decide +kernel, by decide +kernel⟩, by decide⟩, wl_223, wl_224⟩
theorem mvl_X8_mark : wf_MV mX8_mark 3 := ⟨⟨wl_226, wl_1, ⟨by decide +kernel, by decide +kernel, by decide +kernel⟩, by decide⟩, wl_227, wl_228⟩
theorem mvl_X9_mark : wf_MV mX9_mark 3 := ⟨⟨wl_230, wl_6, ⟨by decide +kernel, by decide +kernel, by decide +kernel⟩, by decide⟩, wl_231, wl_232⟩
theorem mvl_X8_pour : wf_MV mX8_pour 1 := ⟨⟨wl_234, wl_1, ⟨by decide +kernel, by decide +kernel, by decide +kernel⟩, by decide⟩, wl_235, wl_236⟩
theorem mvl_X9_pour : wf_MV mX9_pour 1 := ⟨⟨wl_238, wl_6, ⟨by decide +kernel, by decide +kernel, by decide +kernel⟩, by decide⟩, wl_239, wl_240⟩
theorem mvl_X8_reads : wf_MV mX8_reads 1 := ⟨⟨wl_242, wl_1, ⟨by decide +kernel, by decide +kernel, by decide +kernel⟩, by decide⟩, wl_243, wl_244⟩
theorem mvl_X9_reads : wf_MV mX9_reads 1 := ⟨⟨wl_246, wl_6, ⟨by decide +kernel, by decide +kernel, by decide +kernel⟩, by decide⟩, wl_247, wl_248⟩
theorem mvl_X8_copy : wf_MV mX8_copy 5 := ⟨⟨wl_250, wl_1, ⟨by decide +kernel, by decide +kernel, by decide +kernel⟩, by decide⟩, wl_251, wl_252⟩
theorem mvl_X9_copy : wf_MV mX9_copy 5 := ⟨⟨wl_254, wl_6, ⟨by decide +kernel, by decide +kernel, by decide +kernel⟩, by decide⟩, wl_255, wl_256⟩
theorem mvl_X8_lay : wf_MV mX8_lay 3 := ⟨⟨wl_258, wl_1, ⟨by decide +kernel, by decide +kernel, by decide +kernel⟩, by decide⟩, wl_259, wl_260⟩
theorem mvl_X9_lay : wf_MV mX9_lay 3 := ⟨⟨wl_262, wl_6, ⟨by decide +kernel, by decide +kernel, by decide +kernel⟩, by decide⟩, wl_263, wl_264⟩
theorem mvl_X8_ask : wf_MV mX8_ask 2 := ⟨⟨wl_266, wl_1, ⟨by decide +kernel, by decide +kernel, by decide +kernel⟩, by decide⟩, wl_267, wl_268⟩
theorem mvl_X9_ask : wf_MV mX9_ask 2 := ⟨⟨wl_270, wl_6, ⟨by decide +kernel, by decide +kernel, by decide +kernel⟩, by decide⟩, wl_271, wl_272⟩
theorem mvl_X8_item : wf_MV mX8_item 2 := ⟨⟨wl_274, wl_1, ⟨by decide +kernel, by decide +kernel, by decide +kernel⟩, by decide⟩, wl_275, wl_276⟩
theorem mvl_X9_item : wf_MV mX9_item 2 := ⟨⟨wl_278, wl_6, ⟨by decide +kernel, by decide +kernel, by decide +kernel⟩, by decide⟩, wl_279, wl_280⟩
theorem mvl_X8_rest : wf_MV mX8_rest 2 := ⟨⟨wl_282, wl_1, ⟨by decide +kernel, by decide +kernel, by decide +kernel⟩, by decide⟩, wl_283, wl_284⟩
theorem mvl_X9_rest : wf_MV mX9_rest 2 := ⟨⟨wl_286, wl_6, ⟨by decide +kernel, by decide +kernel, by decide +kernel⟩, by decide⟩, wl_287, wl_288⟩
theorem mvl_X8_tell : wf_MV mX8_tell 1 := ⟨⟨wl_290, wl_1, ⟨by decide +kernel, by decide +kernel, by decide +kernel⟩, by decide⟩, wl_291, wl_292⟩
theorem mvl_X9_tell : wf_MV mX9_tell 1 := ⟨⟨wl_294, wl_6, ⟨by decide +kernel, by decide +kernel, by decide +kernel⟩, by decide⟩, wl_295, wl_296⟩
theorem mvl_X8_check : wf_MV mX8_check 1 := ⟨⟨wl_298, wl_1, ⟨by decide +kernel, by decide +kernel, by decide +kernel⟩, by decide⟩, wl_299, wl_300⟩
theorem mvl_X9_check : wf_MV mX9_check 1 := ⟨⟨wl_302, wl_6, ⟨by decide +kernel, by decide +kernel, by decide +kernel⟩, by decide⟩, wl_303, wl_304⟩
theorem mvl_X8_keep : wf_MV mX8_keep 0 := ⟨⟨wl_306, wl_1, ⟨by decide +kernel, by decide +kernel, by decide +kernel⟩, by decide⟩, wl_307, wl_308⟩
theorem mvl_X9_keep : wf_MV mX9_keep 0 := ⟨⟨wl_310, wl_6, ⟨by decide +kernel, by decide +kernel, by decide +kernel⟩, by decide⟩, wl_311, wl_312⟩
theorem mvl_X8_back : wf_MV mX8_back 0 := ⟨⟨wl_314, wl_1, ⟨by decide +kernel, by decide +kernel, by decide +kernel⟩, by decide⟩, wl_315, wl_316⟩
theorem mvl_X9_back : wf_MV mX9_back 0 := ⟨⟨wl_318, wl_6, ⟨by decide +kernel, by decide +kernel, by decide +kernel⟩, by decide⟩, wl_319, wl_320⟩
theorem mvl_X8_count : wf_MV mX8_count 1 := ⟨⟨wl_322, wl_1, ⟨by decide +kernel, by decide +kernel, by decide +kernel⟩, by decide⟩, wl_323, wl_324⟩
theorem mvl_X9_count : wf_MV mX9_count 1 := ⟨⟨wl_326, wl_6, ⟨by decide +kernel, by decide +kernel, by decide +kernel⟩, by decide⟩, wl_327, wl_328⟩
