/-! the constructors: words, methods, fields, classes -/
theorem wk_0 : Cond.instanceMethod Lib.objectInit ∈ gw_tbl := gw_in (List.mem_of_getElem? (i := 90) (by decide +kernel)) (by decide +kernel)
theorem wk_1 : Cond.code Lib.objectInit ⟨#[0xb1]⟩ 1 none ∈ gw_tbl := gw_in (List.mem_of_getElem? (i := 91) (by decide +kernel)) (by decide +kernel)
theorem wk_2 : Cond.arrayClass .int ∈ gw_tbl := gw_in (List.mem_of_getElem? (i := 114) (by decide +kernel)) (by decide +kernel)
theorem wk_3 : Cond.code yX0_init cX0_init 3 none ∈ gw_tbl := gw_in (List.mem_of_getElem? (i := 187) (by decide +kernel)) (by decide +kernel)
theorem wk_4 : Cond.initialized RX0 ∈ gw_tbl := gw_in (List.mem_of_getElem? (i := 70) (by decide +kernel)) (by decide +kernel)
theorem wk_5 : Cond.instanceMethod yX0_init ∈ gw_tbl := gw_in (List.mem_of_getElem? (i := 186) (by decide +kernel)) (by decide +kernel)
theorem wk_6 : Cond.code yX1_init cX1_init 1 none ∈ gw_tbl := gw_in (List.mem_of_getElem? (i := 96) (by decide +kernel)) (by decide +kernel)
theorem wk_7 : Cond.initialized RX1 ∈ gw_tbl := gw_in (List.mem_of_getElem? (i := 67) (by decide +kernel)) (by decide +kernel)
theorem wk_8 : Cond.instanceMethod yX1_init ∈ gw_tbl := gw_in (List.mem_of_getElem? (i := 95) (by decide +kernel)) (by decide +kernel)
theorem wk_9 : Cond.code yX2_init cX2_init 2 none ∈ gw_tbl := gw_in (List.mem_of_getElem? (i := 162) (by decide +kernel)) (by decide +kernel)
theorem wk_10 : Cond.initialized RX2 ∈ gw_tbl := gw_in (List.mem_of_getElem? (i := 69) (by decide +kernel)) (by decide +kernel)
theorem wk_11 : Cond.instanceMethod yX2_init ∈ gw_tbl := gw_in (List.mem_of_getElem? (i := 161) (by decide +kernel)) (by decide +kernel)
theorem wk_12 : Cond.code yX3_init cX3_init 1 none ∈ gw_tbl := gw_in (List.mem_of_getElem? (i := 193) (by decide +kernel)) (by decide +kernel)
theorem wk_13 : Cond.initialized RX3 ∈ gw_tbl := gw_in (List.mem_of_getElem? (i := 71) (by decide +kernel)) (by decide +kernel)
theorem wk_14 : Cond.instanceMethod yX3_init ∈ gw_tbl := gw_in (List.mem_of_getElem? (i := 192) (by decide +kernel)) (by decide +kernel)
theorem wk_15 : Cond.code yX4_init cX4_init 1 none ∈ gw_tbl := gw_in (List.mem_of_getElem? (i := 322) (by decide +kernel)) (by decide +kernel)
theorem wk_16 : Cond.initialized RX4 ∈ gw_tbl := gw_in (List.mem_of_getElem? (i := 73) (by decide +kernel)) (by decide +kernel)
theorem wk_17 : Cond.instanceMethod yX4_init ∈ gw_tbl := gw_in (List.mem_of_getElem? (i := 321) (by decide +kernel)) (by decide +kernel)
theorem wk_18 : Cond.code yX5_init cX5_init 1 none ∈ gw_tbl := gw_in (List.mem_of_getElem? (i := 340) (by decide +kernel)) (by decide +kernel)
theorem wk_19 : Cond.initialized RX5 ∈ gw_tbl := gw_in (List.mem_of_getElem? (i := 74) (by decide +kernel)) (by decide +kernel)
theorem wk_20 : Cond.instanceMethod yX5_init ∈ gw_tbl := gw_in (List.mem_of_getElem? (i := 339) (by decide +kernel)) (by decide +kernel)
theorem wk_21 : Cond.code yX6_init cX6_init 1 none ∈ gw_tbl := gw_in (List.mem_of_getElem? (i := 119) (by decide +kernel)) (by decide +kernel)
theorem wk_22 : Cond.initialized RX6 ∈ gw_tbl := gw_in (List.mem_of_getElem? (i := 68) (by decide +kernel)) (by decide +kernel)
theorem wk_23 : Cond.instanceMethod yX6_init ∈ gw_tbl := gw_in (List.mem_of_getElem? (i := 118) (by decide +kernel)) (by decide +kernel)
theorem wk_24 : Cond.code yX7_init cX7_init 1 none ∈ gw_tbl := gw_in (List.mem_of_getElem? (i := 223) (by decide +kernel)) (by decide +kernel)
theorem wk_25 : Cond.initialized RX7 ∈ gw_tbl := gw_in (List.mem_of_getElem? (i := 72) (by decide +kernel)) (by decide +kernel)
theorem wk_26 : Cond.instanceMethod yX7_init ∈ gw_tbl := gw_in (List.mem_of_getElem? (i := 222) (by decide +kernel)) (by decide +kernel)
theorem wk_27 : Cond.code yX8_init cX8_init 3 none ∈ gw_tbl := gw_in (List.mem_of_getElem? (i := 88) (by decide +kernel)) (by decide +kernel)
theorem wk_28 : Cond.initialized RX8 ∈ gw_tbl := gw_in (List.mem_of_getElem? (i := 66) (by decide +kernel)) (by decide +kernel)
theorem wk_29 : Cond.instanceMethod yX8_init ∈ gw_tbl := gw_in (List.mem_of_getElem? (i := 87) (by decide +kernel)) (by decide +kernel)
theorem wk_30 : Cond.code yX9_init cX9_init 2 none ∈ gw_tbl := gw_in (List.mem_of_getElem? (i := 994) (by decide +kernel)) (by decide +kernel)
theorem wk_31 : Cond.initialized RX9 ∈ gw_tbl := gw_in (List.mem_of_getElem? (i := 75) (by decide +kernel)) (by decide +kernel)
theorem wk_32 : Cond.instanceMethod yX9_init ∈ gw_tbl := gw_in (List.mem_of_getElem? (i := 993) (by decide +kernel)) (by decide +kernel)
theorem wk_33 : Cond.code yX8_emptyLaws cX8_emptyLaws 3 (some (.array (.object "WolfFires$Law"))) ∈ gw_tbl := gw_in (List.mem_of_getElem? (i := 156) (by decide +kernel)) (by decide +kernel)
theorem wk_34 : Cond.static yX8_emptyLaws ∈ gw_tbl := gw_in (List.mem_of_getElem? (i := 155) (by decide +kernel)) (by decide +kernel)
theorem wk_35 : Cond.methodLink RX7 3 Lib.objectInit ∈ gw_tbl := gw_in (List.mem_of_getElem? (i := 224) (by decide +kernel)) (by decide +kernel)
theorem wk_36 : Cond.fieldLink RX7 9 "WolfFires$Watcher" "kind" "I" ∈ gw_tbl := gw_in (List.mem_of_getElem? (i := 225) (by decide +kernel)) (by decide +kernel)
theorem wk_37 : Cond.fieldLink RX7 15 "WolfFires$Watcher" "at" "I" ∈ gw_tbl := gw_in (List.mem_of_getElem? (i := 228) (by decide +kernel)) (by decide +kernel)
theorem wk_38 : Cond.fieldLink RX7 18 "WolfFires$Watcher" "eyes" "I" ∈ gw_tbl := gw_in (List.mem_of_getElem? (i := 231) (by decide +kernel)) (by decide +kernel)
theorem wk_39 : Cond.fieldLink RX7 21 "WolfFires$Watcher" "tired" "I" ∈ gw_tbl := gw_in (List.mem_of_getElem? (i := 234) (by decide +kernel)) (by decide +kernel)
theorem wk_40 : Cond.fieldLink RX7 24 "WolfFires$Watcher" "on" "I" ∈ gw_tbl := gw_in (List.mem_of_getElem? (i := 237) (by decide +kernel)) (by decide +kernel)
theorem wk_41 : Cond.methodLink RX4 3 Lib.objectInit ∈ gw_tbl := gw_in (List.mem_of_getElem? (i := 323) (by decide +kernel)) (by decide +kernel)
theorem wk_42 : Cond.fieldLink RX4 9 "WolfFires$Sheet" "sort" "I" ∈ gw_tbl := gw_in (List.mem_of_getElem? (i := 324) (by decide +kernel)) (by decide +kernel)
theorem wk_43 : Cond.fieldLink RX4 15 "WolfFires$Sheet" "many" "I" ∈ gw_tbl := gw_in (List.mem_of_getElem? (i := 326) (by decide +kernel)) (by decide +kernel)
theorem wk_44 : Cond.fieldLink RX4 18 "WolfFires$Sheet" "places" "[I" ∈ gw_tbl := gw_in (List.mem_of_getElem? (i := 328) (by decide +kernel)) (by decide +kernel)
theorem wk_45 : Cond.methodLink RX3 3 Lib.objectInit ∈ gw_tbl := gw_in (List.mem_of_getElem? (i := 194) (by decide +kernel)) (by decide +kernel)
theorem wk_46 : Cond.fieldLink RX3 9 "WolfFires$Ring" "many" "I" ∈ gw_tbl := gw_in (List.mem_of_getElem? (i := 195) (by decide +kernel)) (by decide +kernel)
theorem wk_47 : Cond.fieldLink RX3 15 "WolfFires$Ring" "foals" "[I" ∈ gw_tbl := gw_in (List.mem_of_getElem? (i := 199) (by decide +kernel)) (by decide +kernel)
theorem wk_48 : Cond.fieldLink RX3 19 "WolfFires$Ring" "fire" "[I" ∈ gw_tbl := gw_in (List.mem_of_getElem? (i := 203) (by decide +kernel)) (by decide +kernel)
theorem wk_49 : Cond.fieldLink RX3 22 "WolfFires$Ring" "tried" "[I" ∈ gw_tbl := gw_in (List.mem_of_getElem? (i := 206) (by decide +kernel)) (by decide +kernel)
theorem wk_50 : Cond.methodLink RX2 3 Lib.objectInit ∈ gw_tbl := gw_in (List.mem_of_getElem? (i := 163) (by decide +kernel)) (by decide +kernel)
theorem wk_51 : Cond.fieldLink RX2 9 "WolfFires$Law" "key" "I" ∈ gw_tbl := gw_in (List.mem_of_getElem? (i := 164) (by decide +kernel)) (by decide +kernel)
theorem wk_52 : Cond.fieldLink RX2 15 "WolfFires$Law" "leaves" "I" ∈ gw_tbl := gw_in (List.mem_of_getElem? (i := 167) (by decide +kernel)) (by decide +kernel)
theorem wk_53 : Cond.fieldLink RX2 18 "WolfFires$Law" "codes" "[I" ∈ gw_tbl := gw_in (List.mem_of_getElem? (i := 169) (by decide +kernel)) (by decide +kernel)
theorem wk_54 : Cond.fieldLink RX2 22 "WolfFires$Law" "many" "I" ∈ gw_tbl := gw_in (List.mem_of_getElem? (i := 170) (by decide +kernel)) (by decide +kernel)
theorem wk_55 : Cond.fieldLink RX2 25 "WolfFires$Law" "stack" "[I" ∈ gw_tbl := gw_in (List.mem_of_getElem? (i := 171) (by decide +kernel)) (by decide +kernel)
theorem wk_56 : Cond.methodLink RX1 5 Lib.objectInit ∈ gw_tbl := gw_in (List.mem_of_getElem? (i := 97) (by decide +kernel)) (by decide +kernel)
theorem wk_57 : Cond.fieldLink RX1 11 "WolfFires$FireSearch" "lights" "[I" ∈ gw_tbl := gw_in (List.mem_of_getElem? (i := 98) (by decide +kernel)) (by decide +kernel)
theorem wk_58 : Cond.fieldLink RX1 15 "WolfFires$FireSearch" "light" "I" ∈ gw_tbl := gw_in (List.mem_of_getElem? (i := 99) (by decide +kernel)) (by decide +kernel)
theorem wk_59 : Cond.fieldLink RX1 19 "WolfFires$FireSearch" "together" "I" ∈ gw_tbl := gw_in (List.mem_of_getElem? (i := 101) (by decide +kernel)) (by decide +kernel)
theorem wk_60 : Cond.fieldLink RX1 22 "WolfFires$FireSearch" "digits" "I" ∈ gw_tbl := gw_in (List.mem_of_getElem? (i := 103) (by decide +kernel)) (by decide +kernel)
theorem wk_61 : Cond.methodLink RX6 3 Lib.objectInit ∈ gw_tbl := gw_in (List.mem_of_getElem? (i := 120) (by decide +kernel)) (by decide +kernel)
theorem wk_62 : Cond.fieldLink RX6 9 "WolfFires$Tape" "bytes" "[I" ∈ gw_tbl := gw_in (List.mem_of_getElem? (i := 121) (by decide +kernel)) (by decide +kernel)
theorem wk_63 : Cond.fieldLink RX6 15 "WolfFires$Tape" "many" "I" ∈ gw_tbl := gw_in (List.mem_of_getElem? (i := 122) (by decide +kernel)) (by decide +kernel)
theorem wk_64 : Cond.fieldLink RX6 19 "WolfFires$Tape" "from" "I" ∈ gw_tbl := gw_in (List.mem_of_getElem? (i := 124) (by decide +kernel)) (by decide +kernel)
theorem wk_65 : Cond.fieldLink RX6 22 "WolfFires$Tape" "to" "I" ∈ gw_tbl := gw_in (List.mem_of_getElem? (i := 125) (by decide +kernel)) (by decide +kernel)
theorem wk_66 : Cond.fieldLink RX6 25 "WolfFires$Tape" "open" "[I" ∈ gw_tbl := gw_in (List.mem_of_getElem? (i := 126) (by decide +kernel)) (by decide +kernel)
theorem wk_67 : Cond.fieldLink RX6 28 "WolfFires$Tape" "height" "I" ∈ gw_tbl := gw_in (List.mem_of_getElem? (i := 127) (by decide +kernel)) (by decide +kernel)
theorem wk_68 : Cond.fieldLink RX6 31 "WolfFires$Tape" "parens" "I" ∈ gw_tbl := gw_in (List.mem_of_getElem? (i := 128) (by decide +kernel)) (by decide +kernel)
theorem wk_69 : Cond.fieldLink RX6 34 "WolfFires$Tape" "nots" "I" ∈ gw_tbl := gw_in (List.mem_of_getElem? (i := 129) (by decide +kernel)) (by decide +kernel)
theorem wk_70 : Cond.fieldLink RX6 37 "WolfFires$Tape" "wantsPiece" "Z" ∈ gw_tbl := gw_in (List.mem_of_getElem? (i := 130) (by decide +kernel)) (by decide +kernel)
theorem wk_71 : Cond.methodLink RX5 3 Lib.objectInit ∈ gw_tbl := gw_in (List.mem_of_getElem? (i := 341) (by decide +kernel)) (by decide +kernel)
theorem wk_72 : Cond.fieldLink RX5 9 "WolfFires$Slot" "thing" "I" ∈ gw_tbl := gw_in (List.mem_of_getElem? (i := 346) (by decide +kernel)) (by decide +kernel)
theorem wk_73 : Cond.fieldLink RX5 15 "WolfFires$Slot" "number" "I" ∈ gw_tbl := gw_in (List.mem_of_getElem? (i := 348) (by decide +kernel)) (by decide +kernel)
theorem wk_74 : Cond.instantiable RX7 5 ∈ gw_tbl := gw_in (List.mem_of_getElem? (i := 220) (by decide +kernel)) (by decide +kernel)
theorem wk_75 : Cond.classLink RX5 18 RX7 ∈ gw_tbl := gw_in (List.mem_of_getElem? (i := 342) (by decide +kernel)) (by decide +kernel)
theorem wk_76 : Cond.fieldLink RX5 21 "WolfFires$Slot" "watcher" "LWolfFires$Watcher;" ∈ gw_tbl := gw_in (List.mem_of_getElem? (i := 350) (by decide +kernel)) (by decide +kernel)
theorem wk_77 : Cond.instantiable RX4 3 ∈ gw_tbl := gw_in (List.mem_of_getElem? (i := 319) (by decide +kernel)) (by decide +kernel)
theorem wk_78 : Cond.classLink RX5 25 RX4 ∈ gw_tbl := gw_in (List.mem_of_getElem? (i := 344) (by decide +kernel)) (by decide +kernel)
theorem wk_79 : Cond.fieldLink RX5 28 "WolfFires$Slot" "sheet" "LWolfFires$Sheet;" ∈ gw_tbl := gw_in (List.mem_of_getElem? (i := 352) (by decide +kernel)) (by decide +kernel)
theorem wk_80 : Cond.methodLink RX8 74 yX2_init ∈ gw_tbl := gw_in (List.mem_of_getElem? (i := 160) (by decide +kernel)) (by decide +kernel)
theorem wk_81 : Cond.instantiable RX2 5 ∈ gw_tbl := gw_in (List.mem_of_getElem? (i := 159) (by decide +kernel)) (by decide +kernel)
theorem wk_82 : Cond.classLink RX8 72 RX2 ∈ gw_tbl := gw_in (List.mem_of_getElem? (i := 157) (by decide +kernel)) (by decide +kernel)
theorem wk_83 : Cond.fieldLink RX0 20 "WolfFires$Camp" "watchers" "[LWolfFires$Watcher;" ∈ gw_tbl := gw_in (List.mem_of_getElem? (i := 254) (by decide +kernel)) (by decide +kernel)
theorem wk_84 : Cond.classLink RX0 18 RX7 ∈ gw_tbl := gw_in (List.mem_of_getElem? (i := 217) (by decide +kernel)) (by decide +kernel)
theorem wk_85 : Cond.methodLink RX0 3 Lib.objectInit ∈ gw_tbl := gw_in (List.mem_of_getElem? (i := 188) (by decide +kernel)) (by decide +kernel)
theorem wk_86 : Cond.instantiable RX3 4 ∈ gw_tbl := gw_in (List.mem_of_getElem? (i := 190) (by decide +kernel)) (by decide +kernel)
theorem wk_87 : Cond.classLink RX0 9 RX3 ∈ gw_tbl := gw_in (List.mem_of_getElem? (i := 189) (by decide +kernel)) (by decide +kernel)
theorem wk_88 : Cond.fieldLink RX0 12 "WolfFires$Camp" "ring" "LWolfFires$Ring;" ∈ gw_tbl := gw_in (List.mem_of_getElem? (i := 251) (by decide +kernel)) (by decide +kernel)
theorem wk_89 : Cond.fieldLink RX0 24 "WolfFires$Camp" "watchersMany" "I" ∈ gw_tbl := gw_in (List.mem_of_getElem? (i := 256) (by decide +kernel)) (by decide +kernel)
theorem wk_90 : Cond.fieldLink RX0 28 "WolfFires$Camp" "wood" "I" ∈ gw_tbl := gw_in (List.mem_of_getElem? (i := 258) (by decide +kernel)) (by decide +kernel)
theorem wk_91 : Cond.fieldLink RX0 31 "WolfFires$Camp" "wolves" "I" ∈ gw_tbl := gw_in (List.mem_of_getElem? (i := 260) (by decide +kernel)) (by decide +kernel)
theorem wk_92 : Cond.fieldLink RX0 34 "WolfFires$Camp" "hunger" "I" ∈ gw_tbl := gw_in (List.mem_of_getElem? (i := 262) (by decide +kernel)) (by decide +kernel)
theorem wk_93 : Cond.fieldLink RX0 37 "WolfFires$Camp" "hour" "I" ∈ gw_tbl := gw_in (List.mem_of_getElem? (i := 264) (by decide +kernel)) (by decide +kernel)
theorem wk_94 : Cond.fieldLink RX0 40 "WolfFires$Camp" "slept" "I" ∈ gw_tbl := gw_in (List.mem_of_getElem? (i := 266) (by decide +kernel)) (by decide +kernel)
theorem wk_95 : Cond.fieldLink RX0 43 "WolfFires$Camp" "lost" "I" ∈ gw_tbl := gw_in (List.mem_of_getElem? (i := 268) (by decide +kernel)) (by decide +kernel)
theorem wk_96 : Cond.fieldLink RX0 46 "WolfFires$Camp" "burnt" "I" ∈ gw_tbl := gw_in (List.mem_of_getElem? (i := 270) (by decide +kernel)) (by decide +kernel)
theorem wk_97 : Cond.fieldLink RX0 49 "WolfFires$Camp" "z" "I" ∈ gw_tbl := gw_in (List.mem_of_getElem? (i := 272) (by decide +kernel)) (by decide +kernel)
theorem wk_98 : Cond.fieldLink RX0 52 "WolfFires$Camp" "texts" "I" ∈ gw_tbl := gw_in (List.mem_of_getElem? (i := 275) (by decide +kernel)) (by decide +kernel)
theorem wk_99 : Cond.constant RX0 55 (-1000000005) ∈ gw_tbl := gw_in (List.mem_of_getElem? (i := 219) (by decide +kernel)) (by decide +kernel)
theorem wk_100 : Cond.fieldLink RX0 56 "WolfFires$Camp" "textFor" "[I" ∈ gw_tbl := gw_in (List.mem_of_getElem? (i := 277) (by decide +kernel)) (by decide +kernel)
theorem wk_101 : Cond.fieldLink RX0 60 "WolfFires$Camp" "light" "[I" ∈ gw_tbl := gw_in (List.mem_of_getElem? (i := 279) (by decide +kernel)) (by decide +kernel)
theorem wk_102 : Cond.fieldLink RX0 63 "WolfFires$Camp" "guard" "[I" ∈ gw_tbl := gw_in (List.mem_of_getElem? (i := 281) (by decide +kernel)) (by decide +kernel)
theorem wk_103 : Cond.fieldLink RX0 66 "WolfFires$Camp" "came" "I" ∈ gw_tbl := gw_in (List.mem_of_getElem? (i := 283) (by decide +kernel)) (by decide +kernel)
theorem wk_104 : Cond.fieldLink RX0 69 "WolfFires$Camp" "laws" "[LWolfFires$Law;" ∈ gw_tbl := gw_in (List.mem_of_getElem? (i := 274) (by decide +kernel)) (by decide +kernel)
theorem wk_105 : Cond.methodLink RX8 47 yX8_emptyLaws ∈ gw_tbl := gw_in (List.mem_of_getElem? (i := 154) (by decide +kernel)) (by decide +kernel)
theorem wk_106 : Cond.methodLink RX8 57 yX0_init ∈ gw_tbl := gw_in (List.mem_of_getElem? (i := 185) (by decide +kernel)) (by decide +kernel)
theorem wk_107 : Cond.fieldLink RX8 31 "WolfFires" "slots" "[LWolfFires$Slot;" ∈ gw_tbl := gw_in (List.mem_of_getElem? (i := 370) (by decide +kernel)) (by decide +kernel)
theorem wk_108 : Cond.instantiable RX5 4 ∈ gw_tbl := gw_in (List.mem_of_getElem? (i := 337) (by decide +kernel)) (by decide +kernel)
theorem wk_109 : Cond.classLink RX8 29 RX5 ∈ gw_tbl := gw_in (List.mem_of_getElem? (i := 152) (by decide +kernel)) (by decide +kernel)
theorem wk_110 : Cond.fieldLink RX8 25 "WolfFires" "sheets" "[LWolfFires$Sheet;" ∈ gw_tbl := gw_in (List.mem_of_getElem? (i := 369) (by decide +kernel)) (by decide +kernel)
theorem wk_111 : Cond.classLink RX8 23 RX4 ∈ gw_tbl := gw_in (List.mem_of_getElem? (i := 150) (by decide +kernel)) (by decide +kernel)
theorem wk_112 : Cond.methodLink RX8 1 Lib.objectInit ∈ gw_tbl := gw_in (List.mem_of_getElem? (i := 89) (by decide +kernel)) (by decide +kernel)
theorem wk_113 : Cond.instantiable RX1 4 ∈ gw_tbl := gw_in (List.mem_of_getElem? (i := 93) (by decide +kernel)) (by decide +kernel)
theorem wk_114 : Cond.classLink RX8 7 RX1 ∈ gw_tbl := gw_in (List.mem_of_getElem? (i := 92) (by decide +kernel)) (by decide +kernel)
theorem wk_115 : Cond.fieldLink RX8 10 "WolfFires" "search" "LWolfFires$FireSearch;" ∈ gw_tbl := gw_in (List.mem_of_getElem? (i := 367) (by decide +kernel)) (by decide +kernel)
theorem wk_116 : Cond.instantiable RX6 9 ∈ gw_tbl := gw_in (List.mem_of_getElem? (i := 116) (by decide +kernel)) (by decide +kernel)
theorem wk_117 : Cond.classLink RX8 16 RX6 ∈ gw_tbl := gw_in (List.mem_of_getElem? (i := 115) (by decide +kernel)) (by decide +kernel)
theorem wk_118 : Cond.fieldLink RX8 19 "WolfFires" "tape" "LWolfFires$Tape;" ∈ gw_tbl := gw_in (List.mem_of_getElem? (i := 368) (by decide +kernel)) (by decide +kernel)
theorem wk_119 : Cond.fieldLink RX8 35 "WolfFires" "waiting" "[I" ∈ gw_tbl := gw_in (List.mem_of_getElem? (i := 371) (by decide +kernel)) (by decide +kernel)
theorem wk_120 : Cond.fieldLink RX8 39 "WolfFires" "waitingMany" "I" ∈ gw_tbl := gw_in (List.mem_of_getElem? (i := 372) (by decide +kernel)) (by decide +kernel)
theorem wk_121 : Cond.fieldLink RX8 43 "WolfFires" "kept" "Z" ∈ gw_tbl := gw_in (List.mem_of_getElem? (i := 373) (by decide +kernel)) (by decide +kernel)
theorem wk_122 : Cond.fieldLink RX8 51 "WolfFires" "laws" "[LWolfFires$Law;" ∈ gw_tbl := gw_in (List.mem_of_getElem? (i := 363) (by decide +kernel)) (by decide +kernel)
theorem wk_123 : Cond.instantiable RX0 17 ∈ gw_tbl := gw_in (List.mem_of_getElem? (i := 184) (by decide +kernel)) (by decide +kernel)
theorem wk_124 : Cond.classLink RX8 55 RX0 ∈ gw_tbl := gw_in (List.mem_of_getElem? (i := 183) (by decide +kernel)) (by decide +kernel)
theorem wk_125 : Cond.fieldLink RX8 60 "WolfFires" "now" "LWolfFires$Camp;" ∈ gw_tbl := gw_in (List.mem_of_getElem? (i := 364) (by decide +kernel)) (by decide +kernel)
theorem wk_126 : Cond.fieldLink RX8 64 "WolfFires" "image" "LWolfFires$Camp;" ∈ gw_tbl := gw_in (List.mem_of_getElem? (i := 365) (by decide +kernel)) (by decide +kernel)
theorem wk_127 : Cond.fieldLink RX8 67 "WolfFires" "thought" "LWolfFires$Camp;" ∈ gw_tbl := gw_in (List.mem_of_getElem? (i := 366) (by decide +kernel)) (by decide +kernel)
theorem wk_128 : Cond.methodLink RX9 1 Lib.objectInit ∈ gw_tbl := gw_in (List.mem_of_getElem? (i := 995) (by decide +kernel)) (by decide +kernel)
theorem wk_129 : Cond.fieldLink RX9 7 "WolfFiresModel" "s" "[I" ∈ gw_tbl := gw_in (List.mem_of_getElem? (i := 996) (by decide +kernel)) (by decide +kernel)
theorem wk_130 : Cond.fieldLink RX9 13 "WolfFiresModel" "image" "[I" ∈ gw_tbl := gw_in (List.mem_of_getElem? (i := 997) (by decide +kernel)) (by decide +kernel)
theorem wk_131 : Cond.fieldLink RX9 16 "WolfFiresModel" "aside" "[I" ∈ gw_tbl := gw_in (List.mem_of_getElem? (i := 998) (by decide +kernel)) (by decide +kernel)
theorem wk_132 : Cond.fieldLink RX9 19 "WolfFiresModel" "tSort" "[I" ∈ gw_tbl := gw_in (List.mem_of_getElem? (i := 1000) (by decide +kernel)) (by decide +kernel)
theorem wk_133 : Cond.fieldLink RX9 22 "WolfFiresModel" "tSize" "[I" ∈ gw_tbl := gw_in (List.mem_of_getElem? (i := 1001) (by decide +kernel)) (by decide +kernel)
theorem wk_134 : Cond.fieldLink RX9 25 "WolfFiresModel" "tNumber" "[I" ∈ gw_tbl := gw_in (List.mem_of_getElem? (i := 1002) (by decide +kernel)) (by decide +kernel)
theorem wk_135 : Cond.fieldLink RX9 28 "WolfFiresModel" "held" "[I" ∈ gw_tbl := gw_in (List.mem_of_getElem? (i := 1003) (by decide +kernel)) (by decide +kernel)
theorem wk_136 : Cond.fieldLink RX9 31 "WolfFiresModel" "heldNumber" "[I" ∈ gw_tbl := gw_in (List.mem_of_getElem? (i := 1004) (by decide +kernel)) (by decide +kernel)
theorem wk_137 : Cond.fieldLink RX9 34 "WolfFiresModel" "heldWorth" "[I" ∈ gw_tbl := gw_in (List.mem_of_getElem? (i := 1005) (by decide +kernel)) (by decide +kernel)
theorem wk_138 : Cond.fieldLink RX9 37 "WolfFiresModel" "heldSize" "[I" ∈ gw_tbl := gw_in (List.mem_of_getElem? (i := 1006) (by decide +kernel)) (by decide +kernel)
theorem wk_139 : Cond.fieldLink RX9 40 "WolfFiresModel" "heldRow" "[I" ∈ gw_tbl := gw_in (List.mem_of_getElem? (i := 1007) (by decide +kernel)) (by decide +kernel)
theorem wk_140 : Cond.fieldLink RX9 43 "WolfFiresModel" "close" "[I" ∈ gw_tbl := gw_in (List.mem_of_getElem? (i := 1010) (by decide +kernel)) (by decide +kernel)
theorem wk_141 : Cond.fieldLink RX9 46 "WolfFiresModel" "tape" "[I" ∈ gw_tbl := gw_in (List.mem_of_getElem? (i := 1011) (by decide +kernel)) (by decide +kernel)
theorem wk_142 : Cond.fieldLink RX9 49 "WolfFiresModel" "named" "[I" ∈ gw_tbl := gw_in (List.mem_of_getElem? (i := 1023) (by decide +kernel)) (by decide +kernel)
theorem wk_143 : Cond.fieldLink RX9 52 "WolfFiresModel" "pile" "[I" ∈ gw_tbl := gw_in (List.mem_of_getElem? (i := 1024) (by decide +kernel)) (by decide +kernel)
theorem wk_144 : Cond.fieldLink RX9 55 "WolfFiresModel" "carried" "[I" ∈ gw_tbl := gw_in (List.mem_of_getElem? (i := 1025) (by decide +kernel)) (by decide +kernel)
theorem wk_145 : Cond.fieldLink RX9 58 "WolfFiresModel" "waits" "[I" ∈ gw_tbl := gw_in (List.mem_of_getElem? (i := 1026) (by decide +kernel)) (by decide +kernel)
theorem wk_146 : Cond.fieldLink RX9 61 "WolfFiresModel" "rowDue" "[I" ∈ gw_tbl := gw_in (List.mem_of_getElem? (i := 1028) (by decide +kernel)) (by decide +kernel)
abbrev mX0_init : wf_M := (yX0_init, cX0_init, 3, none)
theorem mik_X0_init : Cond.instanceMethod yX0_init ∈ gw_tbl := wk_5
theorem mdk_X0_init : wf_MD mX0_init 1 := ⟨wk_3, wk_4, ⟨by decide +kernel, by decide +kernel, by decide +kernel⟩, by decide⟩
abbrev mX1_init : wf_M := (yX1_init, cX1_init, 1, none)
theorem mik_X1_init : Cond.instanceMethod yX1_init ∈ gw_tbl := wk_8
theorem mdk_X1_init : wf_MD mX1_init 0 := ⟨wk_6, wk_7, ⟨by decide +kernel, by decide +kernel, by decide +kernel⟩, by decide⟩
abbrev mX2_init : wf_M := (yX2_init, cX2_init, 2, none)
theorem mik_X2_init : Cond.instanceMethod yX2_init ∈ gw_tbl := wk_11
theorem mdk_X2_init : wf_MD mX2_init 1 := ⟨wk_9, wk_10, ⟨by decide +kernel, by decide +kernel, by decide +kernel⟩, by decide⟩
abbrev mX3_init : wf_M := (yX3_init, cX3_init, 1, none)
theorem mik_X3_init : Cond.instanceMethod yX3_init ∈ gw_tbl := wk_14
theorem mdk_X3_init : wf_MD mX3_init 0 := ⟨wk_12, wk_13, ⟨by decide +kernel, by decide +kernel, by decide +kernel⟩, by decide⟩
abbrev mX4_init : wf_M := (yX4_init, cX4_init, 1, none)
theorem mik_X4_init : Cond.instanceMethod yX4_init ∈ gw_tbl := wk_17
theorem mdk_X4_init : wf_MD mX4_init 0 := ⟨wk_15, wk_16, ⟨by decide +kernel, by decide +kernel, by decide +kernel⟩, by decide⟩
abbrev mX5_init : wf_M := (yX5_init, cX5_init, 1, none)
theorem mik_X5_init : Cond.instanceMethod yX5_init ∈ gw_tbl := wk_20
theorem mdk_X5_init : wf_MD mX5_init 0 := ⟨wk_18, wk_19, ⟨by decide +kernel, by decide +kernel, by decide +kernel⟩, by decide⟩
abbrev mX6_init : wf_M := (yX6_init, cX6_init, 1, none)
theorem mik_X6_init : Cond.instanceMethod yX6_init ∈ gw_tbl := wk_23
theorem mdk_X6_init : wf_MD mX6_init 0 := ⟨wk_21, wk_22, ⟨by decide +kernel, by decide +kernel, by decide +kernel⟩, by decide⟩
abbrev mX7_init : wf_M := (yX7_init, cX7_init, 1, none)
theorem mik_X7_init : Cond.instanceMethod yX7_init ∈ gw_tbl := wk_26
theorem mdk_X7_init : wf_MD mX7_init 0 := ⟨wk_24, wk_25, ⟨by decide +kernel, by decide +kernel, by decide +kernel⟩, by decide⟩
abbrev mX8_init : wf_M := (yX8_init, cX8_init, 3, none)
theorem mik_X8_init : Cond.instanceMethod yX8_init ∈ gw_tbl := wk_29
theorem mdk_X8_init : wf_MD mX8_init 0 := ⟨wk_27, wk_28, ⟨by decide +kernel, by decide +kernel, by decide +kernel⟩, by decide⟩
abbrev mX9_init : wf_M := (yX9_init, cX9_init, 2, none)
theorem mik_X9_init : Cond.instanceMethod yX9_init ∈ gw_tbl := wk_32
theorem mdk_X9_init : wf_MD mX9_init 0 := ⟨wk_30, wk_31, ⟨by decide +kernel, by decide +kernel, by decide +kernel⟩, by decide⟩
abbrev mX8_emptyLaws : wf_M := (yX8_emptyLaws, cX8_emptyLaws, 3, some (.array (.object "WolfFires$Law")))
theorem mdk_X8_emptyLaws : wf_MS mX8_emptyLaws 0 := ⟨⟨wk_33, wk_28, ⟨by decide +kernel, by decide +kernel, by decide +kernel⟩, by decide⟩, wk_34⟩
theorem pi_X7_9 : wf_PL RX7 9 7 0 .int := ⟨RX7, TX7, 5, tyX7, rfl, gi_X7, by decide, rfl, by decide, wk_36, tyX7_ok, nmX7, rfl, by decide +kernel, fun _ => rfl⟩
theorem pi_X7_15 : wf_PL RX7 15 7 1 .int := ⟨RX7, TX7, 5, tyX7, rfl, gi_X7, by decide, rfl, by decide, wk_37, tyX7_ok, nmX7, rfl, by decide +kernel, fun _ => rfl⟩
theorem pi_X7_18 : wf_PL RX7 18 7 2 .int := ⟨RX7, TX7, 5, tyX7, rfl, gi_X7, by decide, rfl, by decide, wk_38, tyX7_ok, nmX7, rfl, by decide +kernel, fun _ => rfl⟩
theorem pi_X7_21 : wf_PL RX7 21 7 3 .int := ⟨RX7, TX7, 5, tyX7, rfl, gi_X7, by decide, rfl, by decide, wk_39, tyX7_ok, nmX7, rfl, by decide +kernel, fun _ => rfl⟩
theorem pi_X7_24 : wf_PL RX7 24 7 4 .int := ⟨RX7, TX7, 5, tyX7, rfl, gi_X7, by decide, rfl, by decide, wk_40, tyX7_ok, nmX7, rfl, by decide +kernel, fun _ => rfl⟩
theorem pi_X4_9 : wf_PL RX4 9 4 0 .int := ⟨RX4, TX4, 3, tyX4, rfl, gi_X4, by decide, rfl, by decide, wk_42, tyX4_ok, nmX4, rfl, by decide +kernel, fun _ => rfl⟩
theorem pi_X4_15 : wf_PL RX4 15 4 1 .int := ⟨RX4, TX4, 3, tyX4, rfl, gi_X4, by decide, rfl, by decide, wk_43, tyX4_ok, nmX4, rfl, by decide +kernel, fun _ => rfl⟩
theorem pr_X4_18 : wf_FP RX4 18 4 2 (.array .int) := ⟨RX4, TX4, 3, tyX4, rfl, gi_X4, by decide, rfl, by decide, wk_44, tyX4_ok, nmX4, rfl, rfl, by decide +kernel, fun _ => ⟨rfl, rfl⟩⟩
theorem pi_X3_9 : wf_PL RX3 9 3 0 .int := ⟨RX3, TX3, 4, tyX3, rfl, gi_X3, by decide, rfl, by decide, wk_46, tyX3_ok, nmX3, rfl, by decide +kernel, fun _ => rfl⟩
theorem pr_X3_15 : wf_FP RX3 15 3 1 (.array .int) := ⟨RX3, TX3, 4, tyX3, rfl, gi_X3, by decide, rfl, by decide, wk_47, tyX3_ok, nmX3, rfl, rfl, by decide +kernel, fun _ => ⟨rfl, rfl⟩⟩
theorem pr_X3_19 : wf_FP RX3 19 3 2 (.array .int) := ⟨RX3, TX3, 4, tyX3, rfl, gi_X3, by decide, rfl, by decide, wk_48, tyX3_ok, nmX3, rfl, rfl, by decide +kernel, fun _ => ⟨rfl, rfl⟩⟩
theorem pr_X3_22 : wf_FP RX3 22 3 3 (.array .int) := ⟨RX3, TX3, 4, tyX3, rfl, gi_X3, by decide, rfl, by decide, wk_49, tyX3_ok, nmX3, rfl, rfl, by decide +kernel, fun _ => ⟨rfl, rfl⟩⟩
theorem pi_X2_9 : wf_PL RX2 9 2 0 .int := ⟨RX2, TX2, 5, tyX2, rfl, gi_X2, by decide, rfl, by decide, wk_51, tyX2_ok, nmX2, rfl, by decide +kernel, fun _ => rfl⟩
theorem pi_X2_15 : wf_PL RX2 15 2 1 .int := ⟨RX2, TX2, 5, tyX2, rfl, gi_X2, by decide, rfl, by decide, wk_52, tyX2_ok, nmX2, rfl, by decide +kernel, fun _ => rfl⟩
theorem pr_X2_18 : wf_FP RX2 18 2 2 (.array .int) := ⟨RX2, TX2, 5, tyX2, rfl, gi_X2, by decide, rfl, by decide, wk_53, tyX2_ok, nmX2, rfl, rfl, by decide +kernel, fun _ => ⟨rfl, rfl⟩⟩
theorem pi_X2_22 : wf_PL RX2 22 2 3 .int := ⟨RX2, TX2, 5, tyX2, rfl, gi_X2, by decide, rfl, by decide, wk_54, tyX2_ok, nmX2, rfl, by decide +kernel, fun _ => rfl⟩
theorem pr_X2_25 : wf_FP RX2 25 2 4 (.array .int) := ⟨RX2, TX2, 5, tyX2, rfl, gi_X2, by decide, rfl, by decide, wk_55, tyX2_ok, nmX2, rfl, rfl, by decide +kernel, fun _ => ⟨rfl, rfl⟩⟩
theorem pr_X1_11 : wf_FP RX1 11 1 0 (.array .int) := ⟨RX1, TX1, 4, tyX1, rfl, gi_X1, by decide, rfl, by decide, wk_57, tyX1_ok, nmX1, rfl, rfl, by decide +kernel, fun _ => ⟨rfl, rfl⟩⟩
theorem pi_X1_15 : wf_PL RX1 15 1 1 .int := ⟨RX1, TX1, 4, tyX1, rfl, gi_X1, by decide, rfl, by decide, wk_58, tyX1_ok, nmX1, rfl, by decide +kernel, fun _ => rfl⟩
theorem pi_X1_19 : wf_PL RX1 19 1 2 .int := ⟨RX1, TX1, 4, tyX1, rfl, gi_X1, by decide, rfl, by decide, wk_59, tyX1_ok, nmX1, rfl, by decide +kernel, fun _ => rfl⟩
theorem pi_X1_22 : wf_PL RX1 22 1 3 .int := ⟨RX1, TX1, 4, tyX1, rfl, gi_X1, by decide, rfl, by decide, wk_60, tyX1_ok, nmX1, rfl, by decide +kernel, fun _ => rfl⟩
theorem pr_X6_9 : wf_FP RX6 9 6 0 (.array .int) := ⟨RX6, TX6, 9, tyX6, rfl, gi_X6, by decide, rfl, by decide, wk_62, tyX6_ok, nmX6, rfl, rfl, by decide +kernel, fun _ => ⟨rfl, rfl⟩⟩
theorem pi_X6_15 : wf_PL RX6 15 6 1 .int := ⟨RX6, TX6, 9, tyX6, rfl, gi_X6, by decide, rfl, by decide, wk_63, tyX6_ok, nmX6, rfl, by decide +kernel, fun _ => rfl⟩
theorem pi_X6_19 : wf_PL RX6 19 6 2 .int := ⟨RX6, TX6, 9, tyX6, rfl, gi_X6, by decide, rfl, by decide, wk_64, tyX6_ok, nmX6, rfl, by decide +kernel, fun _ => rfl⟩
theorem pi_X6_22 : wf_PL RX6 22 6 3 .int := ⟨RX6, TX6, 9, tyX6, rfl, gi_X6, by decide, rfl, by decide, wk_65, tyX6_ok, nmX6, rfl, by decide +kernel, fun _ => rfl⟩
theorem pr_X6_25 : wf_FP RX6 25 6 4 (.array .int) := ⟨RX6, TX6, 9, tyX6, rfl, gi_X6, by decide, rfl, by decide, wk_66, tyX6_ok, nmX6, rfl, rfl, by decide +kernel, fun _ => ⟨rfl, rfl⟩⟩
theorem pi_X6_28 : wf_PL RX6 28 6 5 .int := ⟨RX6, TX6, 9, tyX6, rfl, gi_X6, by decide, rfl, by decide, wk_67, tyX6_ok, nmX6, rfl, by decide +kernel, fun _ => rfl⟩
theorem pi_X6_31 : wf_PL RX6 31 6 6 .int := ⟨RX6, TX6, 9, tyX6, rfl, gi_X6, by decide, rfl, by decide, wk_68, tyX6_ok, nmX6, rfl, by decide +kernel, fun _ => rfl⟩
theorem pi_X6_34 : wf_PL RX6 34 6 7 .int := ⟨RX6, TX6, 9, tyX6, rfl, gi_X6, by decide, rfl, by decide, wk_69, tyX6_ok, nmX6, rfl, by decide +kernel, fun _ => rfl⟩
theorem pi_X6_37 : wf_PL RX6 37 6 8 .boolean := ⟨RX6, TX6, 9, tyX6, rfl, gi_X6, by decide, rfl, by decide, wk_70, tyX6_ok, nmX6, rfl, by decide +kernel, fun _ => rfl⟩
theorem pi_X5_9 : wf_PL RX5 9 5 0 .int := ⟨RX5, TX5, 4, tyX5, rfl, gi_X5, by decide, rfl, by decide, wk_72, tyX5_ok, nmX5, rfl, by decide +kernel, fun _ => rfl⟩
theorem pi_X5_15 : wf_PL RX5 15 5 1 .int := ⟨RX5, TX5, 4, tyX5, rfl, gi_X5, by decide, rfl, by decide, wk_73, tyX5_ok, nmX5, rfl, by decide +kernel, fun _ => rfl⟩
theorem nw_X5_18 : wf_NW RX5 18 7 := ⟨RX7, TX7, 5, tyX7, rfl, gi_X7, rfl, by decide, tyX7_ok, wk_75, wk_74, wk_25, fun a j hj => by rcases (show j = 0 ∨ j = 1 ∨ j = 2 ∨ j = 3 ∨ j = 4 by omega) with rfl | rfl | rfl | rfl | rfl <;> rfl⟩
theorem pr_X5_21 : wf_FP RX5 21 5 2 (.object "WolfFires$Watcher") := ⟨RX5, TX5, 4, tyX5, rfl, gi_X5, by decide, rfl, by decide, wk_76, tyX5_ok, nmX5, rfl, rfl, by decide +kernel, fun _ => ⟨rfl, rfl⟩⟩
theorem nw_X5_25 : wf_NW RX5 25 4 := ⟨RX4, TX4, 3, tyX4, rfl, gi_X4, rfl, by decide, tyX4_ok, wk_78, wk_77, wk_16, fun a j hj => by rcases (show j = 0 ∨ j = 1 ∨ j = 2 by omega) with rfl | rfl | rfl <;> rfl⟩
theorem pr_X5_28 : wf_FP RX5 28 5 3 (.object "WolfFires$Sheet") := ⟨RX5, TX5, 4, tyX5, rfl, gi_X5, by decide, rfl, by decide, wk_79, tyX5_ok, nmX5, rfl, rfl, by decide +kernel, fun _ => ⟨rfl, rfl⟩⟩
theorem nw_X8_72 : wf_NW RX8 72 2 := ⟨RX2, TX2, 5, tyX2, rfl, gi_X2, rfl, by decide, tyX2_ok, wk_82, wk_81, wk_10, fun a j hj => by rcases (show j = 0 ∨ j = 1 ∨ j = 2 ∨ j = 3 ∨ j = 4 by omega) with rfl | rfl | rfl | rfl | rfl <;> rfl⟩
theorem gr_X0_20 : wf_FL RX0 20 0 1 := ⟨RX0, TX0, 17, rfl, gi_X0, by decide, rfl, by decide, wk_83⟩
theorem nw_X0_18 : wf_NW RX0 18 7 := ⟨RX7, TX7, 5, tyX7, rfl, gi_X7, rfl, by decide, tyX7_ok, wk_84, wk_74, wk_25, fun a j hj => by rcases (show j = 0 ∨ j = 1 ∨ j = 2 ∨ j = 3 ∨ j = 4 by omega) with rfl | rfl | rfl | rfl | rfl <;> rfl⟩
theorem nw_X0_9 : wf_NW RX0 9 3 := ⟨RX3, TX3, 4, tyX3, rfl, gi_X3, rfl, by decide, tyX3_ok, wk_87, wk_86, wk_13, fun a j hj => by rcases (show j = 0 ∨ j = 1 ∨ j = 2 ∨ j = 3 by omega) with rfl | rfl | rfl | rfl <;> rfl⟩
theorem pr_X0_12 : wf_FP RX0 12 0 0 (.object "WolfFires$Ring") := ⟨RX0, TX0, 17, tyX0, rfl, gi_X0, by decide, rfl, by decide, wk_88, tyX0_ok, nmX0, rfl, rfl, by decide +kernel, fun _ => ⟨rfl, rfl⟩⟩
theorem pr_X0_20 : wf_FP RX0 20 0 1 (.array (.object "WolfFires$Watcher")) := ⟨RX0, TX0, 17, tyX0, rfl, gi_X0, by decide, rfl, by decide, wk_83, tyX0_ok, nmX0, rfl, rfl, by decide +kernel, fun _ => ⟨rfl, rfl⟩⟩
theorem pi_X0_24 : wf_PL RX0 24 0 2 .int := ⟨RX0, TX0, 17, tyX0, rfl, gi_X0, by decide, rfl, by decide, wk_89, tyX0_ok, nmX0, rfl, by decide +kernel, fun _ => rfl⟩
theorem pi_X0_28 : wf_PL RX0 28 0 3 .int := ⟨RX0, TX0, 17, tyX0, rfl, gi_X0, by decide, rfl, by decide, wk_90, tyX0_ok, nmX0, rfl, by decide +kernel, fun _ => rfl⟩
theorem pi_X0_31 : wf_PL RX0 31 0 4 .int := ⟨RX0, TX0, 17, tyX0, rfl, gi_X0, by decide, rfl, by decide, wk_91, tyX0_ok, nmX0, rfl, by decide +kernel, fun _ => rfl⟩
theorem pi_X0_34 : wf_PL RX0 34 0 5 .int := ⟨RX0, TX0, 17, tyX0, rfl, gi_X0, by decide, rfl, by decide, wk_92, tyX0_ok, nmX0, rfl, by decide +kernel, fun _ => rfl⟩
theorem pi_X0_37 : wf_PL RX0 37 0 6 .int := ⟨RX0, TX0, 17, tyX0, rfl, gi_X0, by decide, rfl, by decide, wk_93, tyX0_ok, nmX0, rfl, by decide +kernel, fun _ => rfl⟩
theorem pi_X0_40 : wf_PL RX0 40 0 7 .int := ⟨RX0, TX0, 17, tyX0, rfl, gi_X0, by decide, rfl, by decide, wk_94, tyX0_ok, nmX0, rfl, by decide +kernel, fun _ => rfl⟩
theorem pi_X0_43 : wf_PL RX0 43 0 8 .int := ⟨RX0, TX0, 17, tyX0, rfl, gi_X0, by decide, rfl, by decide, wk_95, tyX0_ok, nmX0, rfl, by decide +kernel, fun _ => rfl⟩
theorem pi_X0_46 : wf_PL RX0 46 0 9 .int := ⟨RX0, TX0, 17, tyX0, rfl, gi_X0, by decide, rfl, by decide, wk_96, tyX0_ok, nmX0, rfl, by decide +kernel, fun _ => rfl⟩
theorem pi_X0_49 : wf_PL RX0 49 0 10 .int := ⟨RX0, TX0, 17, tyX0, rfl, gi_X0, by decide, rfl, by decide, wk_97, tyX0_ok, nmX0, rfl, by decide +kernel, fun _ => rfl⟩
theorem pi_X0_52 : wf_PL RX0 52 0 12 .int := ⟨RX0, TX0, 17, tyX0, rfl, gi_X0, by decide, rfl, by decide, wk_98, tyX0_ok, nmX0, rfl, by decide +kernel, fun _ => rfl⟩
theorem pr_X0_56 : wf_FP RX0 56 0 13 (.array .int) := ⟨RX0, TX0, 17, tyX0, rfl, gi_X0, by decide, rfl, by decide, wk_100, tyX0_ok, nmX0, rfl, rfl, by decide +kernel, fun _ => ⟨rfl, rfl⟩⟩
theorem pr_X0_60 : wf_FP RX0 60 0 14 (.array .int) := ⟨RX0, TX0, 17, tyX0, rfl, gi_X0, by decide, rfl, by decide, wk_101, tyX0_ok, nmX0, rfl, rfl, by decide +kernel, fun _ => ⟨rfl, rfl⟩⟩
theorem pr_X0_63 : wf_FP RX0 63 0 15 (.array .int) := ⟨RX0, TX0, 17, tyX0, rfl, gi_X0, by decide, rfl, by decide, wk_102, tyX0_ok, nmX0, rfl, rfl, by decide +kernel, fun _ => ⟨rfl, rfl⟩⟩
theorem pi_X0_66 : wf_PL RX0 66 0 16 .int := ⟨RX0, TX0, 17, tyX0, rfl, gi_X0, by decide, rfl, by decide, wk_103, tyX0_ok, nmX0, rfl, by decide +kernel, fun _ => rfl⟩
theorem pr_X0_69 : wf_FP RX0 69 0 11 (.array (.object "WolfFires$Law")) := ⟨RX0, TX0, 17, tyX0, rfl, gi_X0, by decide, rfl, by decide, wk_104, tyX0_ok, nmX0, rfl, rfl, by decide +kernel, fun _ => ⟨rfl, rfl⟩⟩
theorem gr_X8_31 : wf_FL RX8 31 8 7 := ⟨RX8, TX8, 11, rfl, gi_X8, by decide, rfl, by decide, wk_107⟩
theorem nw_X8_29 : wf_NW RX8 29 5 := ⟨RX5, TX5, 4, tyX5, rfl, gi_X5, rfl, by decide, tyX5_ok, wk_109, wk_108, wk_19, fun a j hj => by rcases (show j = 0 ∨ j = 1 ∨ j = 2 ∨ j = 3 by omega) with rfl | rfl | rfl | rfl <;> rfl⟩
theorem gr_X8_25 : wf_FL RX8 25 8 6 := ⟨RX8, TX8, 11, rfl, gi_X8, by decide, rfl, by decide, wk_110⟩
theorem nw_X8_23 : wf_NW RX8 23 4 := ⟨RX4, TX4, 3, tyX4, rfl, gi_X4, rfl, by decide, tyX4_ok, wk_111, wk_77, wk_16, fun a j hj => by rcases (show j = 0 ∨ j = 1 ∨ j = 2 by omega) with rfl | rfl | rfl <;> rfl⟩
theorem nw_X8_7 : wf_NW RX8 7 1 := ⟨RX1, TX1, 4, tyX1, rfl, gi_X1, rfl, by decide, tyX1_ok, wk_114, wk_113, wk_7, fun a j hj => by rcases (show j = 0 ∨ j = 1 ∨ j = 2 ∨ j = 3 by omega) with rfl | rfl | rfl | rfl <;> rfl⟩
theorem pr_X8_10 : wf_FP RX8 10 8 4 (.object "WolfFires$FireSearch") := ⟨RX8, TX8, 11, tyX8, rfl, gi_X8, by decide, rfl, by decide, wk_115, tyX8_ok, nmX8, rfl, rfl, by decide +kernel, fun _ => ⟨rfl, rfl⟩⟩
theorem nw_X8_16 : wf_NW RX8 16 6 := ⟨RX6, TX6, 9, tyX6, rfl, gi_X6, rfl, by decide, tyX6_ok, wk_117, wk_116, wk_22, fun a j hj => by rcases (show j = 0 ∨ j = 1 ∨ j = 2 ∨ j = 3 ∨ j = 4 ∨ j = 5 ∨ j = 6 ∨ j = 7 ∨ j = 8 by omega) with rfl | rfl | rfl | rfl | rfl | rfl | rfl | rfl | rfl <;> rfl⟩
theorem pr_X8_19 : wf_FP RX8 19 8 5 (.object "WolfFires$Tape") := ⟨RX8, TX8, 11, tyX8, rfl, gi_X8, by decide, rfl, by decide, wk_118, tyX8_ok, nmX8, rfl, rfl, by decide +kernel, fun _ => ⟨rfl, rfl⟩⟩
theorem pr_X8_25 : wf_FP RX8 25 8 6 (.array (.object "WolfFires$Sheet")) := ⟨RX8, TX8, 11, tyX8, rfl, gi_X8, by decide, rfl, by decide, wk_110, tyX8_ok, nmX8, rfl, rfl, by decide +kernel, fun _ => ⟨rfl, rfl⟩⟩
theorem pr_X8_31 : wf_FP RX8 31 8 7 (.array (.object "WolfFires$Slot")) := ⟨RX8, TX8, 11, tyX8, rfl, gi_X8, by decide, rfl, by decide, wk_107, tyX8_ok, nmX8, rfl, rfl, by decide +kernel, fun _ => ⟨rfl, rfl⟩⟩
theorem pr_X8_35 : wf_FP RX8 35 8 8 (.array .int) := ⟨RX8, TX8, 11, tyX8, rfl, gi_X8, by decide, rfl, by decide, wk_119, tyX8_ok, nmX8, rfl, rfl, by decide +kernel, fun _ => ⟨rfl, rfl⟩⟩
theorem pi_X8_39 : wf_PL RX8 39 8 9 .int := ⟨RX8, TX8, 11, tyX8, rfl, gi_X8, by decide, rfl, by decide, wk_120, tyX8_ok, nmX8, rfl, by decide +kernel, fun _ => rfl⟩
theorem pi_X8_43 : wf_PL RX8 43 8 10 .boolean := ⟨RX8, TX8, 11, tyX8, rfl, gi_X8, by decide, rfl, by decide, wk_121, tyX8_ok, nmX8, rfl, by decide +kernel, fun _ => rfl⟩
theorem pr_X8_51 : wf_FP RX8 51 8 0 (.array (.object "WolfFires$Law")) := ⟨RX8, TX8, 11, tyX8, rfl, gi_X8, by decide, rfl, by decide, wk_122, tyX8_ok, nmX8, rfl, rfl, by decide +kernel, fun _ => ⟨rfl, rfl⟩⟩
theorem nw_X8_55 : wf_NW RX8 55 0 := ⟨RX0, TX0, 17, tyX0, rfl, gi_X0, rfl, by decide, tyX0_ok, wk_124, wk_123, wk_4, fun a j hj => by rcases (show j = 0 ∨ j = 1 ∨ j = 2 ∨ j = 3 ∨ j = 4 ∨ j = 5 ∨ j = 6 ∨ j = 7 ∨ j = 8 ∨ j = 9 ∨ j = 10 ∨ j = 11 ∨ j = 12 ∨ j = 13 ∨ j = 14 ∨ j = 15 ∨ j = 16 by omega) with rfl | rfl | rfl | rfl | rfl | rfl | rfl | rfl | rfl | rfl | rfl | rfl | rfl | rfl | rfl | rfl | rfl <;> rfl⟩
theorem pr_X8_60 : wf_FP RX8 60 8 1 (.object "WolfFires$Camp") := ⟨RX8, TX8, 11, tyX8, rfl, gi_X8, by decide, rfl, by decide, wk_125, tyX8_ok, nmX8, rfl, rfl, by decide +kernel, fun _ => ⟨rfl, rfl⟩⟩
theorem pr_X8_64 : wf_FP RX8 64 8 2 (.object "WolfFires$Camp") := ⟨RX8, TX8, 11, tyX8, rfl, gi_X8, by decide, rfl, by decide, wk_126, tyX8_ok, nmX8, rfl, rfl, by decide +kernel, fun _ => ⟨rfl, rfl⟩⟩
theorem pr_X8_67 : wf_FP RX8 67 8 3 (.object "WolfFires$Camp") := ⟨RX8, TX8, 11, tyX8, rfl, gi_X8, by decide, rfl, by decide, wk_127, tyX8_ok, nmX8, rfl, rfl, by decide +kernel, fun _ => ⟨rfl, rfl⟩⟩
theorem pr_X9_7 : wf_FP RX9 7 9 0 (.array .int) := ⟨RX9, TX9, 33, tyX9, rfl, gi_X9, by decide, rfl, by decide, wk_129, tyX9_ok, nmX9, rfl, rfl, by decide +kernel, fun _ => ⟨rfl, rfl⟩⟩
theorem pr_X9_13 : wf_FP RX9 13 9 1 (.array .int) := ⟨RX9, TX9, 33, tyX9, rfl, gi_X9, by decide, rfl, by decide, wk_130, tyX9_ok, nmX9, rfl, rfl, by decide +kernel, fun _ => ⟨rfl, rfl⟩⟩
theorem pr_X9_16 : wf_FP RX9 16 9 2 (.array .int) := ⟨RX9, TX9, 33, tyX9, rfl, gi_X9, by decide, rfl, by decide, wk_131, tyX9_ok, nmX9, rfl, rfl, by decide +kernel, fun _ => ⟨rfl, rfl⟩⟩
theorem pr_X9_19 : wf_FP RX9 19 9 4 (.array .int) := ⟨RX9, TX9, 33, tyX9, rfl, gi_X9, by decide, rfl, by decide, wk_132, tyX9_ok, nmX9, rfl, rfl, by decide +kernel, fun _ => ⟨rfl, rfl⟩⟩
theorem pr_X9_22 : wf_FP RX9 22 9 5 (.array .int) := ⟨RX9, TX9, 33, tyX9, rfl, gi_X9, by decide, rfl, by decide, wk_133, tyX9_ok, nmX9, rfl, rfl, by decide +kernel, fun _ => ⟨rfl, rfl⟩⟩
theorem pr_X9_25 : wf_FP RX9 25 9 6 (.array .int) := ⟨RX9, TX9, 33, tyX9, rfl, gi_X9, by decide, rfl, by decide, wk_134, tyX9_ok, nmX9, rfl, rfl, by decide +kernel, fun _ => ⟨rfl, rfl⟩⟩
theorem pr_X9_28 : wf_FP RX9 28 9 7 (.array .int) := ⟨RX9, TX9, 33, tyX9, rfl, gi_X9, by decide, rfl, by decide, wk_135, tyX9_ok, nmX9, rfl, rfl, by decide +kernel, fun _ => ⟨rfl, rfl⟩⟩
theorem pr_X9_31 : wf_FP RX9 31 9 8 (.array .int) := ⟨RX9, TX9, 33, tyX9, rfl, gi_X9, by decide, rfl, by decide, wk_136, tyX9_ok, nmX9, rfl, rfl, by decide +kernel, fun _ => ⟨rfl, rfl⟩⟩
theorem pr_X9_34 : wf_FP RX9 34 9 9 (.array .int) := ⟨RX9, TX9, 33, tyX9, rfl, gi_X9, by decide, rfl, by decide, wk_137, tyX9_ok, nmX9, rfl, rfl, by decide +kernel, fun _ => ⟨rfl, rfl⟩⟩
theorem pr_X9_37 : wf_FP RX9 37 9 10 (.array .int) := ⟨RX9, TX9, 33, tyX9, rfl, gi_X9, by decide, rfl, by decide, wk_138, tyX9_ok, nmX9, rfl, rfl, by decide +kernel, fun _ => ⟨rfl, rfl⟩⟩
theorem pr_X9_40 : wf_FP RX9 40 9 11 (.array .int) := ⟨RX9, TX9, 33, tyX9, rfl, gi_X9, by decide, rfl, by decide, wk_139, tyX9_ok, nmX9, rfl, rfl, by decide +kernel, fun _ => ⟨rfl, rfl⟩⟩
theorem pr_X9_43 : wf_FP RX9 43 9 14 (.array .int) := ⟨RX9, TX9, 33, tyX9, rfl, gi_X9, by decide, rfl, by decide, wk_140, tyX9_ok, nmX9, rfl, rfl, by decide +kernel, fun _ => ⟨rfl, rfl⟩⟩
theorem pr_X9_46 : wf_FP RX9 46 9 15 (.array .int) := ⟨RX9, TX9, 33, tyX9, rfl, gi_X9, by decide, rfl, by decide, wk_141, tyX9_ok, nmX9, rfl, rfl, by decide +kernel, fun _ => ⟨rfl, rfl⟩⟩
theorem pr_X9_49 : wf_FP RX9 49 9 27 (.array .int) := ⟨RX9, TX9, 33, tyX9, rfl, gi_X9, by decide, rfl, by decide, wk_142, tyX9_ok, nmX9, rfl, rfl, by decide +kernel, fun _ => ⟨rfl, rfl⟩⟩
theorem pr_X9_52 : wf_FP RX9 52 9 28 (.array .int) := ⟨RX9, TX9, 33, tyX9, rfl, gi_X9, by decide, rfl, by decide, wk_143, tyX9_ok, nmX9, rfl, rfl, by decide +kernel, fun _ => ⟨rfl, rfl⟩⟩
theorem pr_X9_55 : wf_FP RX9 55 9 29 (.array .int) := ⟨RX9, TX9, 33, tyX9, rfl, gi_X9, by decide, rfl, by decide, wk_144, tyX9_ok, nmX9, rfl, rfl, by decide +kernel, fun _ => ⟨rfl, rfl⟩⟩
theorem pr_X9_58 : wf_FP RX9 58 9 30 (.array .int) := ⟨RX9, TX9, 33, tyX9, rfl, gi_X9, by decide, rfl, by decide, wk_145, tyX9_ok, nmX9, rfl, rfl, by decide +kernel, fun _ => ⟨rfl, rfl⟩⟩
theorem pr_X9_61 : wf_FP RX9 61 9 32 (.array .int) := ⟨RX9, TX9, 33, tyX9, rfl, gi_X9, by decide, rfl, by decide, wk_146, tyX9_ok, nmX9, rfl, rfl, by decide +kernel, fun _ => ⟨rfl, rfl⟩⟩
theorem gr_X9_7 : wf_FL RX9 7 9 0 := ⟨RX9, TX9, 33, rfl, gi_X9, by decide, rfl, by decide, wk_129⟩
theorem gr_X9_19 : wf_FL RX9 19 9 4 := ⟨RX9, TX9, 33, rfl, gi_X9, by decide, rfl, by decide, wk_132⟩
theorem wf_ms_id {m : wf_Mem} {a k : Nat} {v : Int32} (h : m a k = v) : wf_ms m a k v = m := by
  funext b j
  unfold wf_ms
  split
  · rename_i q; rw [q.1, q.2]; exact h.symm
  · rfl
section KPZ
variable {N : kNd} {M : wf_M} {pc k j n : Nat} {lv lv' : List (Nat × Value)} {st : List Value} {mem : wf_Mem} {set : kSet}
theorem K_put0 {idx ci f a nn : Nat} {x : Int32} {ty : FieldType} (hf : wf_PL M.1.cls idx ci f ty) (hd : decode M.2.1 pc = .ok (.putfield idx, 3)) (hs : wf_sh a = (ci, nn)) (ha : a < n) (hn : narrow ty (.int x) = .int x) (hfit : fits ty (.int x) = true) (h0 : mem a f = x) (kk : Vk N M (pc + 3) lv st k j n mem set) : Vk N M pc lv (.int x :: .ref a :: st) k j n mem set :=
  K_puti hf hd hs ha hn hfit (by rw [wf_ms_id h0]; exact kk)
end KPZ
