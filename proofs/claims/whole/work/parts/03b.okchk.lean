theorem okm_0 : okMB 0 111 58 110 0 = true := by decide +kernel
theorem okm_1 : okMB 1 473 58 471 472 = true := by decide +kernel
theorem okm_2 : okMB 2 391 58 389 390 = true := by decide +kernel
theorem okm_3 : okMB 3 373 58 371 372 = true := by decide +kernel
theorem okm_4 : okMB 4 378 58 376 377 = true := by decide +kernel
theorem okm_5 : okMB 5 383 58 381 382 = true := by decide +kernel
theorem okm_6 : okMB 6 84 56 83 0 = true := by decide +kernel
theorem okm_7 : okMB 7 352 56 350 351 = true := by decide +kernel
theorem okm_8 : okMB 8 360 56 359 0 = true := by decide +kernel
theorem okm_9 : okMB 9 356 56 354 355 = true := by decide +kernel
theorem okm_10 : okMB 10 199 60 198 0 = true := by decide +kernel
theorem okm_11 : okMB 11 602 60 601 9 = true := by decide +kernel
theorem okm_12 : okMB 12 605 60 604 0 = true := by decide +kernel
theorem okm_13 : okMB 13 608 60 607 0 = true := by decide +kernel
theorem okm_14 : okMB 14 598 60 597 8 = true := by decide +kernel
theorem okm_15 : okMB 15 617 60 616 11 = true := by decide +kernel
theorem okm_16 : okMB 16 612 60 611 10 = true := by decide +kernel
theorem okm_17 : okMB 17 748 60 747 0 = true := by decide +kernel
theorem okm_18 : okMB 18 745 60 744 16 = true := by decide +kernel
theorem okm_19 : okMB 19 679 60 678 14 = true := by decide +kernel
theorem okm_20 : okMB 20 741 60 740 15 = true := by decide +kernel
theorem okm_21 : okMB 21 671 60 670 12 = true := by decide +kernel
theorem okm_22 : okMB 22 675 60 674 13 = true := by decide +kernel
theorem okm_23 : okMB 23 593 60 591 592 = true := by decide +kernel
theorem okm_24 : okMB 24 752 60 750 751 = true := by decide +kernel
theorem okm_25 : okMB 25 237 61 236 0 = true := by decide +kernel
theorem okm_26 : okMB 26 800 61 798 799 = true := by decide +kernel
theorem okm_27 : okMB 27 839 61 837 838 = true := by decide +kernel
theorem okm_28 : okMB 28 539 61 537 538 = true := by decide +kernel
theorem okm_29 : okMB 29 553 61 551 552 = true := by decide +kernel
theorem okm_30 : okMB 30 826 61 824 825 = true := by decide +kernel
theorem okm_31 : okMB 31 549 61 547 548 = true := by decide +kernel
theorem okm_32 : okMB 32 257 62 256 0 = true := by decide +kernel
theorem okm_33 : okMB 33 769 71 768 0 = true := by decide +kernel
theorem okm_34 : okMB 34 104 57 103 0 = true := by decide +kernel
theorem okm_35 : okMB 35 505 57 503 504 = true := by decide +kernel
theorem okm_36 : okMB 36 336 57 334 335 = true := by decide +kernel
theorem okm_37 : okMB 37 434 57 432 433 = true := by decide +kernel
theorem okm_38 : okMB 38 430 57 428 429 = true := by decide +kernel
theorem okm_39 : okMB 39 348 57 346 347 = true := by decide +kernel
theorem okm_40 : okMB 40 452 57 451 1 = true := by decide +kernel
theorem okm_41 : okMB 41 460 57 459 2 = true := by decide +kernel
theorem okm_42 : okMB 42 469 57 468 4 = true := by decide +kernel
theorem okm_43 : okMB 43 465 57 464 3 = true := by decide +kernel
theorem okm_44 : okMB 44 448 57 446 447 = true := by decide +kernel
theorem okm_45 : okMB 45 565 57 563 564 = true := by decide +kernel
theorem okm_46 : okMB 46 573 57 571 572 = true := by decide +kernel
theorem okm_47 : okMB 47 418 57 416 417 = true := by decide +kernel
theorem okm_48 : okMB 48 481 57 479 480 = true := by decide +kernel
theorem okm_49 : okMB 49 485 57 483 484 = true := by decide +kernel
theorem okm_50 : okMB 50 489 57 487 488 = true := by decide +kernel
theorem okm_51 : okMB 51 327 55 326 0 = true := by decide +kernel
theorem okm_52 : okMB 52 363 55 362 0 = true := by decide +kernel
theorem okm_53 : okMB 53 76 55 75 0 = true := by decide +kernel
theorem okm_54 : okMB 54 324 55 323 0 = true := by decide +kernel
theorem okm_55 : okMB 55 330 55 329 0 = true := by decide +kernel
theorem okm_56 : okMB 56 321 55 319 320 = true := by decide +kernel
theorem okm_57 : okMB 57 344 55 343 0 = true := by decide +kernel
theorem okm_58 : okMB 58 340 55 338 339 = true := by decide +kernel
theorem okm_59 : okMB 59 387 55 385 386 = true := by decide +kernel
theorem okm_60 : okMB 60 398 55 396 397 = true := by decide +kernel
theorem okm_61 : okMB 61 402 55 400 401 = true := by decide +kernel
theorem okm_62 : okMB 62 406 55 404 405 = true := by decide +kernel
theorem okm_63 : okMB 63 410 55 408 409 = true := by decide +kernel
theorem okm_64 : okMB 64 414 55 412 413 = true := by decide +kernel
theorem okm_65 : okMB 65 422 55 420 421 = true := by decide +kernel
theorem okm_66 : okMB 66 426 55 424 425 = true := by decide +kernel
theorem okm_67 : okMB 67 440 55 438 439 = true := by decide +kernel
theorem okm_68 : okMB 68 444 55 442 443 = true := by decide +kernel
theorem okm_69 : okMB 69 477 55 475 476 = true := by decide +kernel
theorem okm_70 : okMB 70 496 55 495 0 = true := by decide +kernel
theorem okm_71 : okMB 71 493 55 491 492 = true := by decide +kernel
theorem okm_72 : okMB 72 501 55 499 500 = true := by decide +kernel
theorem okm_73 : okMB 73 512 55 510 511 = true := by decide +kernel
theorem okm_74 : okMB 74 520 55 519 5 = true := by decide +kernel
theorem okm_75 : okMB 75 516 55 514 515 = true := by decide +kernel
theorem okm_76 : okMB 76 524 55 522 523 = true := by decide +kernel
theorem okm_77 : okMB 77 528 55 526 527 = true := by decide +kernel
theorem okm_78 : okMB 78 535 55 534 0 = true := by decide +kernel
theorem okm_79 : okMB 79 544 55 543 6 = true := by decide +kernel
theorem okm_80 : okMB 80 532 55 530 531 = true := by decide +kernel
theorem okm_81 : okMB 81 561 55 559 560 = true := by decide +kernel
theorem okm_82 : okMB 82 569 55 567 568 = true := by decide +kernel
theorem okm_83 : okMB 83 581 55 580 7 = true := by decide +kernel
theorem okm_84 : okMB 84 577 55 575 576 = true := by decide +kernel
theorem okm_85 : okMB 85 585 55 583 584 = true := by decide +kernel
theorem okm_86 : okMB 86 589 55 587 588 = true := by decide +kernel
theorem okm_87 : okMB 87 787 55 785 786 = true := by decide +kernel
theorem okm_88 : okMB 88 791 55 789 790 = true := by decide +kernel
theorem okm_89 : okMB 89 795 55 793 794 = true := by decide +kernel
theorem okm_90 : okMB 90 805 55 803 804 = true := by decide +kernel
theorem okm_91 : okMB 91 813 55 811 812 = true := by decide +kernel
theorem okm_92 : okMB 92 818 55 816 817 = true := by decide +kernel
theorem okm_93 : okMB 93 822 55 820 821 = true := by decide +kernel
theorem okm_94 : okMB 94 834 55 833 0 = true := by decide +kernel
theorem okm_95 : okMB 95 831 55 829 830 = true := by decide +kernel
theorem okm_96 : okMB 96 844 55 842 843 = true := by decide +kernel
theorem okm_97 : okMB 97 848 55 846 847 = true := by decide +kernel
theorem okm_98 : okMB 98 852 55 850 851 = true := by decide +kernel
theorem okm_99 : okMB 99 857 55 855 856 = true := by decide +kernel
theorem okm_100 : okMB 100 865 55 864 17 = true := by decide +kernel
theorem okm_101 : okMB 101 861 55 859 860 = true := by decide +kernel
theorem okm_102 : okMB 102 869 55 867 868 = true := by decide +kernel
theorem okm_103 : okMB 103 873 55 871 872 = true := by decide +kernel
theorem okm_104 : okMB 104 877 55 875 876 = true := by decide +kernel
theorem okm_105 : okMB 105 882 63 881 0 = true := by decide +kernel
theorem okm_106 : okMB 106 1001 63 1000 0 = true := by decide +kernel
theorem okm_107 : okMB 107 1033 63 1032 0 = true := by decide +kernel
theorem okm_108 : okMB 108 1173 63 1172 0 = true := by decide +kernel
theorem okm_109 : okMB 109 1022 63 1021 20 = true := by decide +kernel
theorem okm_110 : okMB 110 1004 63 1003 0 = true := by decide +kernel
theorem okm_111 : okMB 111 1026 63 1025 21 = true := by decide +kernel
theorem okm_112 : okMB 112 1014 63 1013 19 = true := by decide +kernel
theorem okm_113 : okMB 113 1068 63 1067 27 = true := by decide +kernel
theorem okm_114 : okMB 114 1208 63 1207 0 = true := by decide +kernel
theorem okm_115 : okMB 115 1041 63 1040 24 = true := by decide +kernel
theorem okm_116 : okMB 116 1048 63 1047 0 = true := by decide +kernel
theorem okm_117 : okMB 117 1045 63 1044 25 = true := by decide +kernel
theorem okm_118 : okMB 118 1037 63 1036 23 = true := by decide +kernel
theorem okm_119 : okMB 119 1052 63 1051 26 = true := by decide +kernel
theorem okm_120 : okMB 120 1030 63 1029 22 = true := by decide +kernel
theorem okm_121 : okMB 121 1010 63 1009 18 = true := by decide +kernel
theorem okm_122 : okMB 122 998 63 996 997 = true := by decide +kernel
theorem okm_123 : okMB 123 1018 63 1016 1017 = true := by decide +kernel
theorem okm_124 : okMB 124 1059 63 1058 0 = true := by decide +kernel
theorem okm_125 : okMB 125 1056 63 1054 1055 = true := by decide +kernel
theorem okm_126 : okMB 126 1064 63 1062 1063 = true := by decide +kernel
theorem okm_127 : okMB 127 1076 63 1075 28 = true := by decide +kernel
theorem okm_128 : okMB 128 1072 63 1070 1071 = true := by decide +kernel
theorem okm_129 : okMB 129 1080 63 1078 1079 = true := by decide +kernel
theorem okm_130 : okMB 130 1084 63 1082 1083 = true := by decide +kernel
theorem okm_131 : okMB 131 1088 63 1086 1087 = true := by decide +kernel
theorem okm_132 : okMB 132 1092 63 1090 1091 = true := by decide +kernel
theorem okm_133 : okMB 133 1100 63 1099 29 = true := by decide +kernel
theorem okm_134 : okMB 134 1096 63 1094 1095 = true := by decide +kernel
theorem okm_135 : okMB 135 1105 63 1103 1104 = true := by decide +kernel
theorem okm_136 : okMB 136 1125 63 1124 33 = true := by decide +kernel
theorem okm_137 : okMB 137 1121 63 1120 32 = true := by decide +kernel
theorem okm_138 : okMB 138 1129 63 1128 34 = true := by decide +kernel
theorem okm_139 : okMB 139 1137 63 1136 36 = true := by decide +kernel
theorem okm_140 : okMB 140 1133 63 1132 35 = true := by decide +kernel
theorem okm_141 : okMB 141 1117 63 1116 31 = true := by decide +kernel
theorem okm_142 : okMB 142 1113 63 1112 30 = true := by decide +kernel
theorem okm_143 : okMB 143 1109 63 1107 1108 = true := by decide +kernel
theorem okm_144 : okMB 144 1145 63 1144 37 = true := by decide +kernel
theorem okm_145 : okMB 145 1149 63 1148 38 = true := by decide +kernel
theorem okm_146 : okMB 146 1153 63 1152 39 = true := by decide +kernel
theorem okm_147 : okMB 147 1141 63 1139 1140 = true := by decide +kernel
theorem okm_148 : okMB 148 1162 63 1161 40 = true := by decide +kernel
theorem okm_149 : okMB 149 1158 63 1156 1157 = true := by decide +kernel
theorem okm_150 : okMB 150 1170 63 1169 41 = true := by decide +kernel
theorem okm_151 : okMB 151 1177 63 1176 42 = true := by decide +kernel
theorem okm_152 : okMB 152 1166 63 1164 1165 = true := by decide +kernel
theorem okm_153 : okMB 153 1181 63 1179 1180 = true := by decide +kernel
theorem okm_154 : okMB 154 1189 63 1188 43 = true := by decide +kernel
theorem okm_155 : okMB 155 1185 63 1183 1184 = true := by decide +kernel
theorem okm_156 : okMB 156 1193 63 1191 1192 = true := by decide +kernel
theorem okm_157 : okMB 157 1197 63 1195 1196 = true := by decide +kernel
theorem okm_158 : okMB 158 1204 63 1203 0 = true := by decide +kernel
theorem okm_159 : okMB 159 1201 63 1199 1200 = true := by decide +kernel
theorem okm_160 : okMB 160 1212 63 1210 1211 = true := by decide +kernel
theorem okm_161 : okMB 161 1216 63 1214 1215 = true := by decide +kernel
theorem okm_162 : okMB 162 1220 63 1218 1219 = true := by decide +kernel
theorem okm_163 : okMB 163 1224 63 1222 1223 = true := by decide +kernel
theorem okm_164 : okMB 164 1236 63 1235 45 = true := by decide +kernel
theorem okm_165 : okMB 165 1240 63 1239 46 = true := by decide +kernel
theorem okm_166 : okMB 166 1232 63 1231 44 = true := by decide +kernel
theorem okm_167 : okMB 167 1244 63 1243 47 = true := by decide +kernel
theorem okm_168 : okMB 168 1256 63 1255 50 = true := by decide +kernel
theorem okm_169 : okMB 169 1263 63 1262 0 = true := by decide +kernel
theorem okm_170 : okMB 170 1260 63 1259 51 = true := by decide +kernel
theorem okm_171 : okMB 171 1271 63 1270 53 = true := by decide +kernel
theorem okm_172 : okMB 172 1252 63 1251 49 = true := by decide +kernel
theorem okm_173 : okMB 173 1267 63 1266 52 = true := by decide +kernel
theorem okm_174 : okMB 174 1248 63 1247 48 = true := by decide +kernel
theorem okm_175 : okMB 175 1228 63 1226 1227 = true := by decide +kernel
theorem okm_176 : okMB 176 1275 63 1273 1274 = true := by decide +kernel
theorem okm_177 : okMB 177 1279 63 1277 1278 = true := by decide +kernel
theorem okm_178 : okMB 178 1310 63 1309 0 = true := by decide +kernel
theorem okm_179 : okMB 179 1283 63 1281 1282 = true := by decide +kernel
theorem okm_180 : okMB 180 1288 63 1286 1287 = true := by decide +kernel
theorem okm_181 : okMB 181 1295 63 1293 1294 = true := by decide +kernel
theorem okm_182 : okMB 182 1299 63 1297 1298 = true := by decide +kernel
theorem okm_183 : okMB 183 1303 63 1301 1302 = true := by decide +kernel
theorem okm_184 : okMB 184 1307 63 1305 1306 = true := by decide +kernel
theorem okm_185 : okMB 185 1314 63 1312 1313 = true := by decide +kernel
theorem okm_186 : okMB 186 1318 63 1316 1317 = true := by decide +kernel
theorem okm_187 : okMB 187 1322 63 1320 1321 = true := by decide +kernel
theorem okm_188 : okMB 188 1327 63 1325 1326 = true := by decide +kernel
theorem okm_189 : okMB 189 1331 63 1329 1330 = true := by decide +kernel
theorem okm_190 : okMB 190 1335 63 1333 1334 = true := by decide +kernel
theorem okm_191 : okMB 191 1339 63 1337 1338 = true := by decide +kernel
theorem okm_192 : okMB 192 1343 63 1341 1342 = true := by decide +kernel
theorem okm_193 : okMB 193 141 59 140 0 = true := by decide +kernel
theorem okm_194 : okMB 194 757 59 756 0 = true := by decide +kernel
set_option maxRecDepth 100000 in
theorem ok_0 : ∀ pc ai, tX0_init pc = some ai → okI 0 pc ai = true := okR (LEN := 5) (fun pc ai h => condlt h) (by decide +kernel)
set_option maxRecDepth 100000 in
theorem ok_1 : ∀ pc ai, tX0_become pc = some ai → okI 1 pc ai = true := okR (LEN := 41) (fun pc ai h => condlt h) (by decide +kernel)
theorem ok_2 : ∀ pc ai, tX0_isOf pc = some ai → okI 2 pc ai = true := fun _ _ h => by cases h
set_option maxRecDepth 100000 in
theorem ok_3 : ∀ pc ai, tX0_filledTo pc = some ai → okI 3 pc ai = true := okR (LEN := 95) (fun pc ai h => condlt h) (by decide +kernel)
set_option maxRecDepth 100000 in
theorem ok_4 : ∀ pc ai, tX0_keptBy pc = some ai → okI 4 pc ai = true := okR (LEN := 89) (fun pc ai h => condlt h) (by decide +kernel)
set_option maxRecDepth 100000 in
theorem ok_5 : ∀ pc ai, tX0_worth pc = some ai → okI 5 pc ai = true := okR (LEN := 91) (fun pc ai h => condlt h) (by decide +kernel)
set_option maxRecDepth 100000 in
theorem ok_6 : ∀ pc ai, tX1_init pc = some ai → okI 6 pc ai = true := okR (LEN := 30) (fun pc ai h => condlt h) (by decide +kernel)
set_option maxRecDepth 100000 in
theorem ok_7 : ∀ pc ai, tX1_name pc = some ai → okI 7 pc ai = true := okR (LEN := 26) (fun pc ai h => condlt h) (by decide +kernel)
set_option maxRecDepth 100000 in
theorem ok_8 : ∀ pc ai, tX1_joined pc = some ai → okI 8 pc ai = true := okR (LEN := 171) (fun pc ai h => condlt h) (by decide +kernel)
set_option maxRecDepth 100000 in
theorem ok_9 : ∀ pc ai, tX1_given pc = some ai → okI 9 pc ai = true := okR (LEN := 196) (fun pc ai h => condlt h) (by decide +kernel)
set_option maxRecDepth 100000 in
theorem ok_10 : ∀ pc ai, tX2_init pc = some ai → okI 10 pc ai = true := okR (LEN := 18) (fun pc ai h => condlt h) (by decide +kernel)
set_option maxRecDepth 100000 in
theorem ok_11 : ∀ pc ai, tX2_byteAt pc = some ai → okI 11 pc ai = true := okR (LEN := 25) (fun pc ai h => condlt h) (by decide +kernel)
set_option maxRecDepth 100000 in
theorem ok_12 : ∀ pc ai, tX2_isLetter pc = some ai → okI 12 pc ai = true := okR (LEN := 18) (fun pc ai h => condlt h) (by decide +kernel)
set_option maxRecDepth 100000 in
theorem ok_13 : ∀ pc ai, tX2_isDigit pc = some ai → okI 13 pc ai = true := okR (LEN := 18) (fun pc ai h => condlt h) (by decide +kernel)
set_option maxRecDepth 100000 in
theorem ok_14 : ∀ pc ai, tX2_step pc = some ai → okI 14 pc ai = true := okR (LEN := 277) (fun pc ai h => condlt h) (by decide +kernel)
theorem ok_15 : ∀ pc ai, tX2_isWord pc = some ai → okI 15 pc ai = true := fun _ _ h => by cases h
theorem ok_16 : ∀ pc ai, tX2_keyRead pc = some ai → okI 16 pc ai = true := fun _ _ h => by cases h
set_option maxRecDepth 100000 in
theorem ok_17 : ∀ pc ai, tX2_joins pc = some ai → okI 17 pc ai = true := okR (LEN := 122) (fun pc ai h => condlt h) (by decide +kernel)
set_option maxRecDepth 100000 in
theorem ok_18 : ∀ pc ai, tX2_put pc = some ai → okI 18 pc ai = true := okR (LEN := 30) (fun pc ai h => condlt h) (by decide +kernel)
theorem ok_19 : ∀ pc ai, tX2_isName pc = some ai → okI 19 pc ai = true := fun _ _ h => by cases h
set_option maxRecDepth 100000 in
theorem ok_20 : ∀ pc ai, tX2_numberRead pc = some ai → okI 20 pc ai = true := okR (LEN := 37) (fun pc ai h => condlt h) (by decide +kernel)
set_option maxRecDepth 100000 in
theorem ok_21 : ∀ pc ai, tX2_readsLevel pc = some ai → okI 21 pc ai = true := okR (LEN := 98) (fun pc ai h => condlt h) (by decide +kernel)
set_option maxRecDepth 100000 in
theorem ok_22 : ∀ pc ai, tX2_readsPiece pc = some ai → okI 22 pc ai = true := okR (LEN := 151) (fun pc ai h => condlt h) (by decide +kernel)
set_option maxRecDepth 100000 in
theorem ok_23 : ∀ pc ai, tX2_readsText pc = some ai → okI 23 pc ai = true := okR (LEN := 84) (fun pc ai h => condlt h) (by decide +kernel)
set_option maxRecDepth 100000 in
theorem ok_24 : ∀ pc ai, tX2_newText pc = some ai → okI 24 pc ai = true := okR (LEN := 27) (fun pc ai h => condlt h) (by decide +kernel)
set_option maxRecDepth 100000 in
theorem ok_25 : ∀ pc ai, tX3_init pc = some ai → okI 25 pc ai = true := okR (LEN := 18) (fun pc ai h => condlt h) (by decide +kernel)
set_option maxRecDepth 100000 in
theorem ok_26 : ∀ pc ai, tX3_begin pc = some ai → okI 26 pc ai = true := okR (LEN := 19) (fun pc ai h => condlt h) (by decide +kernel)
set_option maxRecDepth 100000 in
theorem ok_27 : ∀ pc ai, tX3_become pc = some ai → okI 27 pc ai = true := okR (LEN := 32) (fun pc ai h => condlt h) (by decide +kernel)
set_option maxRecDepth 100000 in
theorem ok_28 : ∀ pc ai, tX3_isMissing pc = some ai → okI 28 pc ai = true := okR (LEN := 14) (fun pc ai h => condlt h) (by decide +kernel)
set_option maxRecDepth 100000 in
theorem ok_29 : ∀ pc ai, tX3_hasPlace pc = some ai → okI 29 pc ai = true := okR (LEN := 18) (fun pc ai h => condlt h) (by decide +kernel)
set_option maxRecDepth 100000 in
theorem ok_30 : ∀ pc ai, tX3_hasPlaces pc = some ai → okI 30 pc ai = true := okR (LEN := 32) (fun pc ai h => condlt h) (by decide +kernel)
set_option maxRecDepth 100000 in
theorem ok_31 : ∀ pc ai, tX3_isNumber pc = some ai → okI 31 pc ai = true := okR (LEN := 25) (fun pc ai h => condlt h) (by decide +kernel)
set_option maxRecDepth 100000 in
theorem ok_32 : ∀ pc ai, tX4_init pc = some ai → okI 32 pc ai = true := okR (LEN := 27) (fun pc ai h => condlt h) (by decide +kernel)
set_option maxRecDepth 100000 in
theorem ok_33 : ∀ pc ai, tX5_init pc = some ai → okI 33 pc ai = true := okR (LEN := 20) (fun pc ai h => condlt h) (by decide +kernel)
set_option maxRecDepth 100000 in
theorem ok_34 : ∀ pc ai, tX6_init pc = some ai → okI 34 pc ai = true := okR (LEN := 96) (fun pc ai h => condlt h) (by decide +kernel)
set_option maxRecDepth 100000 in
theorem ok_35 : ∀ pc ai, tX6_become pc = some ai → okI 35 pc ai = true := okR (LEN := 146) (fun pc ai h => condlt h) (by decide +kernel)
set_option maxRecDepth 100000 in
theorem ok_36 : ∀ pc ai, tX6_addJug pc = some ai → okI 36 pc ai = true := okR (LEN := 62) (fun pc ai h => condlt h) (by decide +kernel)
set_option maxRecDepth 100000 in
theorem ok_37 : ∀ pc ai, tX6_drawn pc = some ai → okI 37 pc ai = true := okR (LEN := 23) (fun pc ai h => condlt h) (by decide +kernel)
set_option maxRecDepth 100000 in
theorem ok_38 : ∀ pc ai, tX6_drawJug pc = some ai → okI 38 pc ai = true := okR (LEN := 46) (fun pc ai h => condlt h) (by decide +kernel)
set_option maxRecDepth 100000 in
theorem ok_39 : ∀ pc ai, tX6_plainOf pc = some ai → okI 39 pc ai = true := okR (LEN := 91) (fun pc ai h => condlt h) (by decide +kernel)
set_option maxRecDepth 100000 in
theorem ok_40 : ∀ pc ai, tX6_fillJugs pc = some ai → okI 40 pc ai = true := okR (LEN := 109) (fun pc ai h => condlt h) (by decide +kernel)
set_option maxRecDepth 100000 in
theorem ok_41 : ∀ pc ai, tX6_sellOneJug pc = some ai → okI 41 pc ai = true := okR (LEN := 108) (fun pc ai h => condlt h) (by decide +kernel)
set_option maxRecDepth 100000 in
theorem ok_42 : ∀ pc ai, tX6_removeJug pc = some ai → okI 42 pc ai = true := okR (LEN := 46) (fun pc ai h => condlt h) (by decide +kernel)
set_option maxRecDepth 100000 in
theorem ok_43 : ∀ pc ai, tX6_breakFullestJug pc = some ai → okI 43 pc ai = true := okR (LEN := 106) (fun pc ai h => condlt h) (by decide +kernel)
set_option maxRecDepth 100000 in
theorem ok_44 : ∀ pc ai, tX6_passDays pc = some ai → okI 44 pc ai = true := okR (LEN := 50) (fun pc ai h => condlt h) (by decide +kernel)
set_option maxRecDepth 100000 in
theorem ok_45 : ∀ pc ai, tX6_feeGiven pc = some ai → okI 45 pc ai = true := okR (LEN := 56) (fun pc ai h => condlt h) (by decide +kernel)
set_option maxRecDepth 100000 in
theorem ok_46 : ∀ pc ai, tX6_fineOf pc = some ai → okI 46 pc ai = true := okR (LEN := 56) (fun pc ai h => condlt h) (by decide +kernel)
set_option maxRecDepth 100000 in
theorem ok_47 : ∀ pc ai, tX6_jugsOf pc = some ai → okI 47 pc ai = true := okR (LEN := 39) (fun pc ai h => condlt h) (by decide +kernel)
set_option maxRecDepth 100000 in
theorem ok_48 : ∀ pc ai, tX6_allMarks pc = some ai → okI 48 pc ai = true := okR (LEN := 32) (fun pc ai h => condlt h) (by decide +kernel)
set_option maxRecDepth 100000 in
theorem ok_49 : ∀ pc ai, tX6_richest pc = some ai → okI 49 pc ai = true := okR (LEN := 35) (fun pc ai h => condlt h) (by decide +kernel)
set_option maxRecDepth 100000 in
theorem ok_50 : ∀ pc ai, tX6_bestJug pc = some ai → okI 50 pc ai = true := okR (LEN := 54) (fun pc ai h => condlt h) (by decide +kernel)
set_option maxRecDepth 100000 in
theorem ok_51 : ∀ pc ai, tX7_within pc = some ai → okI 51 pc ai = true := okR (LEN := 16) (fun pc ai h => condlt h) (by decide +kernel)
set_option maxRecDepth 100000 in
theorem ok_52 : ∀ pc ai, tX7_held pc = some ai → okI 52 pc ai = true := okR (LEN := 10) (fun pc ai h => condlt h) (by decide +kernel)
set_option maxRecDepth 100000 in
theorem ok_53 : ∀ pc ai, tX7_init pc = some ai → okI 53 pc ai = true := okR (LEN := 168) (fun pc ai h => condlt h) (by decide +kernel)
set_option maxRecDepth 100000 in
theorem ok_54 : ∀ pc ai, tX7_isKind pc = some ai → okI 54 pc ai = true := okR (LEN := 7) (fun pc ai h => condlt h) (by decide +kernel)
set_option maxRecDepth 100000 in
theorem ok_55 : ∀ pc ai, tX7_isHand pc = some ai → okI 55 pc ai = true := okR (LEN := 8) (fun pc ai h => condlt h) (by decide +kernel)
set_option maxRecDepth 100000 in
theorem ok_56 : ∀ pc ai, tX7_jug pc = some ai → okI 56 pc ai = true := okR (LEN := 74) (fun pc ai h => condlt h) (by decide +kernel)
set_option maxRecDepth 100000 in
theorem ok_57 : ∀ pc ai, tX7_isJug pc = some ai → okI 57 pc ai = true := okR (LEN := 15) (fun pc ai h => condlt h) (by decide +kernel)
set_option maxRecDepth 100000 in
theorem ok_58 : ∀ pc ai, tX7_told pc = some ai → okI 58 pc ai = true := okR (LEN := 143) (fun pc ai h => condlt h) (by decide +kernel)
set_option maxRecDepth 100000 in
theorem ok_59 : ∀ pc ai, tX7_as pc = some ai → okI 59 pc ai = true := okR (LEN := 52) (fun pc ai h => condlt h) (by decide +kernel)
set_option maxRecDepth 100000 in
theorem ok_60 : ∀ pc ai, tX7_turns pc = some ai → okI 60 pc ai = true := okR (LEN := 46) (fun pc ai h => condlt h) (by decide +kernel)
set_option maxRecDepth 100000 in
theorem ok_61 : ∀ pc ai, tX7_set pc = some ai → okI 61 pc ai = true := okR (LEN := 136) (fun pc ai h => condlt h) (by decide +kernel)
set_option maxRecDepth 100000 in
theorem ok_62 : ∀ pc ai, tX7_gives pc = some ai → okI 62 pc ai = true := okR (LEN := 46) (fun pc ai h => condlt h) (by decide +kernel)
set_option maxRecDepth 100000 in
theorem ok_63 : ∀ pc ai, tX7_heart pc = some ai → okI 63 pc ai = true := okR (LEN := 42) (fun pc ai h => condlt h) (by decide +kernel)
set_option maxRecDepth 100000 in
theorem ok_64 : ∀ pc ai, tX7_hand pc = some ai → okI 64 pc ai = true := okR (LEN := 68) (fun pc ai h => condlt h) (by decide +kernel)
set_option maxRecDepth 100000 in
theorem ok_65 : ∀ pc ai, tX7_frost pc = some ai → okI 65 pc ai = true := okR (LEN := 31) (fun pc ai h => condlt h) (by decide +kernel)
set_option maxRecDepth 100000 in
theorem ok_66 : ∀ pc ai, tX7_deal pc = some ai → okI 66 pc ai = true := okR (LEN := 50) (fun pc ai h => condlt h) (by decide +kernel)
set_option maxRecDepth 100000 in
theorem ok_67 : ∀ pc ai, tX7_seed pc = some ai → okI 67 pc ai = true := okR (LEN := 18) (fun pc ai h => condlt h) (by decide +kernel)
set_option maxRecDepth 100000 in
theorem ok_68 : ∀ pc ai, tX7_days pc = some ai → okI 68 pc ai = true := okR (LEN := 53) (fun pc ai h => condlt h) (by decide +kernel)
set_option maxRecDepth 100000 in
theorem ok_69 : ∀ pc ai, tX7_town pc = some ai → okI 69 pc ai = true := okR (LEN := 91) (fun pc ai h => condlt h) (by decide +kernel)
set_option maxRecDepth 100000 in
theorem ok_70 : ∀ pc ai, tX7_pouringSteps pc = some ai → okI 70 pc ai = true := okR (LEN := 88) (fun pc ai h => condlt h) (by decide +kernel)
set_option maxRecDepth 100000 in
theorem ok_71 : ∀ pc ai, tX7_measure pc = some ai → okI 71 pc ai = true := okR (LEN := 108) (fun pc ai h => condlt h) (by decide +kernel)
set_option maxRecDepth 100000 in
theorem ok_72 : ∀ pc ai, tX7_behind pc = some ai → okI 72 pc ai = true := okR (LEN := 116) (fun pc ai h => condlt h) (by decide +kernel)
set_option maxRecDepth 100000 in
theorem ok_73 : ∀ pc ai, tX7_enough pc = some ai → okI 73 pc ai = true := okR (LEN := 73) (fun pc ai h => condlt h) (by decide +kernel)
set_option maxRecDepth 100000 in
theorem ok_74 : ∀ pc ai, tX7_bestChange pc = some ai → okI 74 pc ai = true := okR (LEN := 184) (fun pc ai h => condlt h) (by decide +kernel)
set_option maxRecDepth 100000 in
theorem ok_75 : ∀ pc ai, tX7_heir pc = some ai → okI 75 pc ai = true := okR (LEN := 22) (fun pc ai h => condlt h) (by decide +kernel)
set_option maxRecDepth 100000 in
theorem ok_76 : ∀ pc ai, tX7_hearts pc = some ai → okI 76 pc ai = true := okR (LEN := 21) (fun pc ai h => condlt h) (by decide +kernel)
set_option maxRecDepth 100000 in
theorem ok_77 : ∀ pc ai, tX7_becomes pc = some ai → okI 77 pc ai = true := okR (LEN := 22) (fun pc ai h => condlt h) (by decide +kernel)
set_option maxRecDepth 100000 in
theorem ok_78 : ∀ pc ai, tX7_isSheet pc = some ai → okI 78 pc ai = true := okR (LEN := 7) (fun pc ai h => condlt h) (by decide +kernel)
set_option maxRecDepth 100000 in
theorem ok_79 : ∀ pc ai, tX7_sumDifferences pc = some ai → okI 79 pc ai = true := okR (LEN := 125) (fun pc ai h => condlt h) (by decide +kernel)
set_option maxRecDepth 100000 in
theorem ok_80 : ∀ pc ai, tX7_like pc = some ai → okI 80 pc ai = true := okR (LEN := 114) (fun pc ai h => condlt h) (by decide +kernel)
set_option maxRecDepth 100000 in
theorem ok_81 : ∀ pc ai, tX7_fee pc = some ai → okI 81 pc ai = true := okR (LEN := 8) (fun pc ai h => condlt h) (by decide +kernel)
set_option maxRecDepth 100000 in
theorem ok_82 : ∀ pc ai, tX7_fine pc = some ai → okI 82 pc ai = true := okR (LEN := 30) (fun pc ai h => condlt h) (by decide +kernel)
set_option maxRecDepth 100000 in
theorem ok_83 : ∀ pc ai, tX7_putBytes pc = some ai → okI 83 pc ai = true := okR (LEN := 46) (fun pc ai h => condlt h) (by decide +kernel)
set_option maxRecDepth 100000 in
theorem ok_84 : ∀ pc ai, tX7_feed pc = some ai → okI 84 pc ai = true := okR (LEN := 32) (fun pc ai h => condlt h) (by decide +kernel)
set_option maxRecDepth 100000 in
theorem ok_85 : ∀ pc ai, tX7_trim pc = some ai → okI 85 pc ai = true := okR (LEN := 22) (fun pc ai h => condlt h) (by decide +kernel)
set_option maxRecDepth 100000 in
theorem ok_86 : ∀ pc ai, tX7_text pc = some ai → okI 86 pc ai = true := okR (LEN := 102) (fun pc ai h => condlt h) (by decide +kernel)
set_option maxRecDepth 100000 in
theorem ok_87 : ∀ pc ai, tX7_textTold pc = some ai → okI 87 pc ai = true := okR (LEN := 62) (fun pc ai h => condlt h) (by decide +kernel)
set_option maxRecDepth 100000 in
theorem ok_88 : ∀ pc ai, tX7_why pc = some ai → okI 88 pc ai = true := okR (LEN := 24) (fun pc ai h => condlt h) (by decide +kernel)
set_option maxRecDepth 100000 in
theorem ok_89 : ∀ pc ai, tX7_sheet pc = some ai → okI 89 pc ai = true := okR (LEN := 64) (fun pc ai h => condlt h) (by decide +kernel)
set_option maxRecDepth 100000 in
theorem ok_90 : ∀ pc ai, tX7_mark pc = some ai → okI 90 pc ai = true := okR (LEN := 101) (fun pc ai h => condlt h) (by decide +kernel)
set_option maxRecDepth 100000 in
theorem ok_91 : ∀ pc ai, tX7_pour pc = some ai → okI 91 pc ai = true := okR (LEN := 118) (fun pc ai h => condlt h) (by decide +kernel)
set_option maxRecDepth 100000 in
theorem ok_92 : ∀ pc ai, tX7_reads pc = some ai → okI 92 pc ai = true := okR (LEN := 91) (fun pc ai h => condlt h) (by decide +kernel)
set_option maxRecDepth 100000 in
theorem ok_93 : ∀ pc ai, tX7_copy pc = some ai → okI 93 pc ai = true := okR (LEN := 115) (fun pc ai h => condlt h) (by decide +kernel)
set_option maxRecDepth 100000 in
theorem ok_94 : ∀ pc ai, tX7_isSlot pc = some ai → okI 94 pc ai = true := okR (LEN := 7) (fun pc ai h => condlt h) (by decide +kernel)
set_option maxRecDepth 100000 in
theorem ok_95 : ∀ pc ai, tX7_lay pc = some ai → okI 95 pc ai = true := okR (LEN := 153) (fun pc ai h => condlt h) (by decide +kernel)
set_option maxRecDepth 100000 in
theorem ok_96 : ∀ pc ai, tX7_ask pc = some ai → okI 96 pc ai = true := okR (LEN := 64) (fun pc ai h => condlt h) (by decide +kernel)
set_option maxRecDepth 100000 in
theorem ok_97 : ∀ pc ai, tX7_item pc = some ai → okI 97 pc ai = true := okR (LEN := 78) (fun pc ai h => condlt h) (by decide +kernel)
set_option maxRecDepth 100000 in
theorem ok_98 : ∀ pc ai, tX7_rest pc = some ai → okI 98 pc ai = true := okR (LEN := 53) (fun pc ai h => condlt h) (by decide +kernel)
set_option maxRecDepth 100000 in
theorem ok_99 : ∀ pc ai, tX7_tell pc = some ai → okI 99 pc ai = true := okR (LEN := 37) (fun pc ai h => condlt h) (by decide +kernel)
set_option maxRecDepth 100000 in
theorem ok_100 : ∀ pc ai, tX7_comparedWithDays pc = some ai → okI 100 pc ai = true := okR (LEN := 105) (fun pc ai h => condlt h) (by decide +kernel)
set_option maxRecDepth 100000 in
theorem ok_101 : ∀ pc ai, tX7_check pc = some ai → okI 101 pc ai = true := okR (LEN := 55) (fun pc ai h => condlt h) (by decide +kernel)
set_option maxRecDepth 100000 in
theorem ok_102 : ∀ pc ai, tX7_keep pc = some ai → okI 102 pc ai = true := okR (LEN := 24) (fun pc ai h => condlt h) (by decide +kernel)
set_option maxRecDepth 100000 in
theorem ok_103 : ∀ pc ai, tX7_back pc = some ai → okI 103 pc ai = true := okR (LEN := 30) (fun pc ai h => condlt h) (by decide +kernel)
set_option maxRecDepth 100000 in
theorem ok_104 : ∀ pc ai, tX7_count pc = some ai → okI 104 pc ai = true := okR (LEN := 133) (fun pc ai h => condlt h) (by decide +kernel)
set_option maxRecDepth 100000 in
theorem ok_105 : ∀ pc ai, tX8_init pc = some ai → okI 105 pc ai = true := okR (LEN := 319) (fun pc ai h => condlt h) (by decide +kernel)
set_option maxRecDepth 100000 in
theorem ok_106 : ∀ pc ai, tX8_in pc = some ai → okI 106 pc ai = true := okR (LEN := 16) (fun pc ai h => condlt h) (by decide +kernel)
set_option maxRecDepth 100000 in
theorem ok_107 : ∀ pc ai, tX8_within pc = some ai → okI 107 pc ai = true := okR (LEN := 20) (fun pc ai h => condlt h) (by decide +kernel)
set_option maxRecDepth 100000 in
theorem ok_108 : ∀ pc ai, tX8_copyAll pc = some ai → okI 108 pc ai = true := okR (LEN := 22) (fun pc ai h => condlt h) (by decide +kernel)
set_option maxRecDepth 100000 in
theorem ok_109 : ∀ pc ai, tX8_isJug pc = some ai → okI 109 pc ai = true := okR (LEN := 14) (fun pc ai h => condlt h) (by decide +kernel)
set_option maxRecDepth 100000 in
theorem ok_110 : ∀ pc ai, tX8_isHand pc = some ai → okI 110 pc ai = true := okR (LEN := 8) (fun pc ai h => condlt h) (by decide +kernel)
set_option maxRecDepth 100000 in
theorem ok_111 : ∀ pc ai, tX8_of pc = some ai → okI 111 pc ai = true := okR (LEN := 14) (fun pc ai h => condlt h) (by decide +kernel)
set_option maxRecDepth 100000 in
theorem ok_112 : ∀ pc ai, tX8_put pc = some ai → okI 112 pc ai = true := okR (LEN := 15) (fun pc ai h => condlt h) (by decide +kernel)
set_option maxRecDepth 100000 in
theorem ok_113 : ∀ pc ai, tX8_swaps pc = some ai → okI 113 pc ai = true := okR (LEN := 16) (fun pc ai h => condlt h) (by decide +kernel)
set_option maxRecDepth 100000 in
theorem ok_114 : ∀ pc ai, tX8_off pc = some ai → okI 114 pc ai = true := okR (LEN := 11) (fun pc ai h => condlt h) (by decide +kernel)
set_option maxRecDepth 100000 in
theorem ok_115 : ∀ pc ai, tX8_counts pc = some ai → okI 115 pc ai = true := okR (LEN := 43) (fun pc ai h => condlt h) (by decide +kernel)
set_option maxRecDepth 100000 in
theorem ok_116 : ∀ pc ai, tX8_two pc = some ai → okI 116 pc ai = true := okR (LEN := 133) (fun pc ai h => condlt h) (by decide +kernel)
set_option maxRecDepth 100000 in
theorem ok_117 : ∀ pc ai, tX8_worksOut pc = some ai → okI 117 pc ai = true := okR (LEN := 162) (fun pc ai h => condlt h) (by decide +kernel)
set_option maxRecDepth 100000 in
theorem ok_118 : ∀ pc ai, tX8_toOf pc = some ai → okI 118 pc ai = true := okR (LEN := 205) (fun pc ai h => condlt h) (by decide +kernel)
set_option maxRecDepth 100000 in
theorem ok_119 : ∀ pc ai, tX8_keepsOf pc = some ai → okI 119 pc ai = true := okR (LEN := 127) (fun pc ai h => condlt h) (by decide +kernel)
set_option maxRecDepth 100000 in
theorem ok_120 : ∀ pc ai, tX8_worthOf pc = some ai → okI 120 pc ai = true := okR (LEN := 84) (fun pc ai h => condlt h) (by decide +kernel)
set_option maxRecDepth 100000 in
theorem ok_121 : ∀ pc ai, tX8_comes pc = some ai → okI 121 pc ai = true := okR (LEN := 62) (fun pc ai h => condlt h) (by decide +kernel)
set_option maxRecDepth 100000 in
theorem ok_122 : ∀ pc ai, tX8_jug pc = some ai → okI 122 pc ai = true := okR (LEN := 65) (fun pc ai h => condlt h) (by decide +kernel)
set_option maxRecDepth 100000 in
theorem ok_123 : ∀ pc ai, tX8_told pc = some ai → okI 123 pc ai = true := okR (LEN := 71) (fun pc ai h => condlt h) (by decide +kernel)
set_option maxRecDepth 100000 in
theorem ok_124 : ∀ pc ai, tX8_isUnder pc = some ai → okI 124 pc ai = true := okR (LEN := 35) (fun pc ai h => condlt h) (by decide +kernel)
set_option maxRecDepth 100000 in
theorem ok_125 : ∀ pc ai, tX8_as pc = some ai → okI 125 pc ai = true := okR (LEN := 45) (fun pc ai h => condlt h) (by decide +kernel)
set_option maxRecDepth 100000 in
theorem ok_126 : ∀ pc ai, tX8_turns pc = some ai → okI 126 pc ai = true := okR (LEN := 34) (fun pc ai h => condlt h) (by decide +kernel)
set_option maxRecDepth 100000 in
theorem ok_127 : ∀ pc ai, tX8_holdsMark pc = some ai → okI 127 pc ai = true := okR (LEN := 23) (fun pc ai h => condlt h) (by decide +kernel)
set_option maxRecDepth 100000 in
theorem ok_128 : ∀ pc ai, tX8_set pc = some ai → okI 128 pc ai = true := okR (LEN := 98) (fun pc ai h => condlt h) (by decide +kernel)
set_option maxRecDepth 100000 in
theorem ok_129 : ∀ pc ai, tX8_gives pc = some ai → okI 129 pc ai = true := okR (LEN := 34) (fun pc ai h => condlt h) (by decide +kernel)
set_option maxRecDepth 100000 in
theorem ok_130 : ∀ pc ai, tX8_heart pc = some ai → okI 130 pc ai = true := okR (LEN := 32) (fun pc ai h => condlt h) (by decide +kernel)
set_option maxRecDepth 100000 in
theorem ok_131 : ∀ pc ai, tX8_hand pc = some ai → okI 131 pc ai = true := okR (LEN := 98) (fun pc ai h => condlt h) (by decide +kernel)
set_option maxRecDepth 100000 in
theorem ok_132 : ∀ pc ai, tX8_frost pc = some ai → okI 132 pc ai = true := okR (LEN := 22) (fun pc ai h => condlt h) (by decide +kernel)
set_option maxRecDepth 100000 in
theorem ok_133 : ∀ pc ai, tX8_draw pc = some ai → okI 133 pc ai = true := okR (LEN := 29) (fun pc ai h => condlt h) (by decide +kernel)
set_option maxRecDepth 100000 in
theorem ok_134 : ∀ pc ai, tX8_deal pc = some ai → okI 134 pc ai = true := okR (LEN := 87) (fun pc ai h => condlt h) (by decide +kernel)
set_option maxRecDepth 100000 in
theorem ok_135 : ∀ pc ai, tX8_seed pc = some ai → okI 135 pc ai = true := okR (LEN := 7) (fun pc ai h => condlt h) (by decide +kernel)
set_option maxRecDepth 100000 in
theorem ok_136 : ∀ pc ai, tX8_has pc = some ai → okI 136 pc ai = true := okR (LEN := 28) (fun pc ai h => condlt h) (by decide +kernel)
set_option maxRecDepth 100000 in
theorem ok_137 : ∀ pc ai, tX8_fills pc = some ai → okI 137 pc ai = true := okR (LEN := 78) (fun pc ai h => condlt h) (by decide +kernel)
set_option maxRecDepth 100000 in
theorem ok_138 : ∀ pc ai, tX8_sells pc = some ai → okI 138 pc ai = true := okR (LEN := 85) (fun pc ai h => condlt h) (by decide +kernel)
set_option maxRecDepth 100000 in
theorem ok_139 : ∀ pc ai, tX8_goes pc = some ai → okI 139 pc ai = true := okR (LEN := 53) (fun pc ai h => condlt h) (by decide +kernel)
set_option maxRecDepth 100000 in
theorem ok_140 : ∀ pc ai, tX8_breaksOne pc = some ai → okI 140 pc ai = true := okR (LEN := 86) (fun pc ai h => condlt h) (by decide +kernel)
set_option maxRecDepth 100000 in
theorem ok_141 : ∀ pc ai, tX8_day pc = some ai → okI 141 pc ai = true := okR (LEN := 57) (fun pc ai h => condlt h) (by decide +kernel)
set_option maxRecDepth 100000 in
theorem ok_142 : ∀ pc ai, tX8_goesOn pc = some ai → okI 142 pc ai = true := okR (LEN := 18) (fun pc ai h => condlt h) (by decide +kernel)
set_option maxRecDepth 100000 in
theorem ok_143 : ∀ pc ai, tX8_days pc = some ai → okI 143 pc ai = true := okR (LEN := 48) (fun pc ai h => condlt h) (by decide +kernel)
set_option maxRecDepth 100000 in
theorem ok_144 : ∀ pc ai, tX8_marks pc = some ai → okI 144 pc ai = true := okR (LEN := 31) (fun pc ai h => condlt h) (by decide +kernel)
set_option maxRecDepth 100000 in
theorem ok_145 : ∀ pc ai, tX8_richest pc = some ai → okI 145 pc ai = true := okR (LEN := 45) (fun pc ai h => condlt h) (by decide +kernel)
set_option maxRecDepth 100000 in
theorem ok_146 : ∀ pc ai, tX8_bestJug pc = some ai → okI 146 pc ai = true := okR (LEN := 55) (fun pc ai h => condlt h) (by decide +kernel)
set_option maxRecDepth 100000 in
theorem ok_147 : ∀ pc ai, tX8_town pc = some ai → okI 147 pc ai = true := okR (LEN := 67) (fun pc ai h => condlt h) (by decide +kernel)
set_option maxRecDepth 100000 in
theorem ok_148 : ∀ pc ai, tX8_comesTo pc = some ai → okI 148 pc ai = true := okR (LEN := 52) (fun pc ai h => condlt h) (by decide +kernel)
set_option maxRecDepth 100000 in
theorem ok_149 : ∀ pc ai, tX8_measure pc = some ai → okI 149 pc ai = true := okR (LEN := 279) (fun pc ai h => condlt h) (by decide +kernel)
set_option maxRecDepth 100000 in
theorem ok_150 : ∀ pc ai, tX8_thinks pc = some ai → okI 150 pc ai = true := okR (LEN := 12) (fun pc ai h => condlt h) (by decide +kernel)
set_option maxRecDepth 100000 in
theorem ok_151 : ∀ pc ai, tX8_putsBack pc = some ai → okI 151 pc ai = true := okR (LEN := 12) (fun pc ai h => condlt h) (by decide +kernel)
set_option maxRecDepth 100000 in
theorem ok_152 : ∀ pc ai, tX8_behind pc = some ai → okI 152 pc ai = true := okR (LEN := 80) (fun pc ai h => condlt h) (by decide +kernel)
set_option maxRecDepth 100000 in
theorem ok_153 : ∀ pc ai, tX8_enough pc = some ai → okI 153 pc ai = true := okR (LEN := 75) (fun pc ai h => condlt h) (by decide +kernel)
set_option maxRecDepth 100000 in
theorem ok_154 : ∀ pc ai, tX8_mostBy pc = some ai → okI 154 pc ai = true := okR (LEN := 95) (fun pc ai h => condlt h) (by decide +kernel)
set_option maxRecDepth 100000 in
theorem ok_155 : ∀ pc ai, tX8_heir pc = some ai → okI 155 pc ai = true := okR (LEN := 49) (fun pc ai h => condlt h) (by decide +kernel)
set_option maxRecDepth 100000 in
theorem ok_156 : ∀ pc ai, tX8_hearts pc = some ai → okI 156 pc ai = true := okR (LEN := 44) (fun pc ai h => condlt h) (by decide +kernel)
set_option maxRecDepth 100000 in
theorem ok_157 : ∀ pc ai, tX8_becomes pc = some ai → okI 157 pc ai = true := okR (LEN := 47) (fun pc ai h => condlt h) (by decide +kernel)
set_option maxRecDepth 100000 in
theorem ok_158 : ∀ pc ai, tX8_isSheet pc = some ai → okI 158 pc ai = true := okR (LEN := 7) (fun pc ai h => condlt h) (by decide +kernel)
set_option maxRecDepth 100000 in
theorem ok_159 : ∀ pc ai, tX8_like pc = some ai → okI 159 pc ai = true := okR (LEN := 235) (fun pc ai h => condlt h) (by decide +kernel)
set_option maxRecDepth 100000 in
theorem ok_160 : ∀ pc ai, tX8_fee pc = some ai → okI 160 pc ai = true := okR (LEN := 49) (fun pc ai h => condlt h) (by decide +kernel)
set_option maxRecDepth 100000 in
theorem ok_161 : ∀ pc ai, tX8_fine pc = some ai → okI 161 pc ai = true := okR (LEN := 60) (fun pc ai h => condlt h) (by decide +kernel)
set_option maxRecDepth 100000 in
theorem ok_162 : ∀ pc ai, tX8_feed pc = some ai → okI 162 pc ai = true := okR (LEN := 100) (fun pc ai h => condlt h) (by decide +kernel)
set_option maxRecDepth 100000 in
theorem ok_163 : ∀ pc ai, tX8_trim pc = some ai → okI 163 pc ai = true := okR (LEN := 22) (fun pc ai h => condlt h) (by decide +kernel)
set_option maxRecDepth 100000 in
theorem ok_164 : ∀ pc ai, tX8_isLetter pc = some ai → okI 164 pc ai = true := okR (LEN := 36) (fun pc ai h => condlt h) (by decide +kernel)
set_option maxRecDepth 100000 in
theorem ok_165 : ∀ pc ai, tX8_isFigure pc = some ai → okI 165 pc ai = true := okR (LEN := 36) (fun pc ai h => condlt h) (by decide +kernel)
set_option maxRecDepth 100000 in
theorem ok_166 : ∀ pc ai, tX8_go pc = some ai → okI 166 pc ai = true := okR (LEN := 304) (fun pc ai h => condlt h) (by decide +kernel)
set_option maxRecDepth 100000 in
theorem ok_167 : ∀ pc ai, tX8_takesKey pc = some ai → okI 167 pc ai = true := okR (LEN := 129) (fun pc ai h => condlt h) (by decide +kernel)
set_option maxRecDepth 100000 in
theorem ok_168 : ∀ pc ai, tX8_nameOf pc = some ai → okI 168 pc ai = true := okR (LEN := 118) (fun pc ai h => condlt h) (by decide +kernel)
set_option maxRecDepth 100000 in
theorem ok_169 : ∀ pc ai, tX8_rank pc = some ai → okI 169 pc ai = true := okR (LEN := 52) (fun pc ai h => condlt h) (by decide +kernel)
set_option maxRecDepth 100000 in
theorem ok_170 : ∀ pc ai, tX8_settle pc = some ai → okI 170 pc ai = true := okR (LEN := 83) (fun pc ai h => condlt h) (by decide +kernel)
set_option maxRecDepth 100000 in
theorem ok_171 : ∀ pc ai, tX8_signHere pc = some ai → okI 171 pc ai = true := okR (LEN := 124) (fun pc ai h => condlt h) (by decide +kernel)
set_option maxRecDepth 100000 in
theorem ok_172 : ∀ pc ai, tX8_takesPart pc = some ai → okI 172 pc ai = true := okR (LEN := 120) (fun pc ai h => condlt h) (by decide +kernel)
set_option maxRecDepth 100000 in
theorem ok_173 : ∀ pc ai, tX8_notsOpen pc = some ai → okI 173 pc ai = true := okR (LEN := 39) (fun pc ai h => condlt h) (by decide +kernel)
set_option maxRecDepth 100000 in
theorem ok_174 : ∀ pc ai, tX8_takesE pc = some ai → okI 174 pc ai = true := okR (LEN := 360) (fun pc ai h => condlt h) (by decide +kernel)
set_option maxRecDepth 100000 in
theorem ok_175 : ∀ pc ai, tX8_text pc = some ai → okI 175 pc ai = true := okR (LEN := 164) (fun pc ai h => condlt h) (by decide +kernel)
set_option maxRecDepth 100000 in
theorem ok_176 : ∀ pc ai, tX8_textTold pc = some ai → okI 176 pc ai = true := okR (LEN := 65) (fun pc ai h => condlt h) (by decide +kernel)
set_option maxRecDepth 100000 in
theorem ok_177 : ∀ pc ai, tX8_why pc = some ai → okI 177 pc ai = true := okR (LEN := 29) (fun pc ai h => condlt h) (by decide +kernel)
set_option maxRecDepth 100000 in
theorem ok_178 : ∀ pc ai, tX8_isSlot pc = some ai → okI 178 pc ai = true := okR (LEN := 7) (fun pc ai h => condlt h) (by decide +kernel)
set_option maxRecDepth 100000 in
theorem ok_179 : ∀ pc ai, tX8_sheet pc = some ai → okI 179 pc ai = true := okR (LEN := 99) (fun pc ai h => condlt h) (by decide +kernel)
set_option maxRecDepth 100000 in
theorem ok_180 : ∀ pc ai, tX8_mark pc = some ai → okI 180 pc ai = true := okR (LEN := 120) (fun pc ai h => condlt h) (by decide +kernel)
set_option maxRecDepth 100000 in
theorem ok_181 : ∀ pc ai, tX8_pour pc = some ai → okI 181 pc ai = true := okR (LEN := 124) (fun pc ai h => condlt h) (by decide +kernel)
set_option maxRecDepth 100000 in
theorem ok_182 : ∀ pc ai, tX8_reads pc = some ai → okI 182 pc ai = true := okR (LEN := 81) (fun pc ai h => condlt h) (by decide +kernel)
set_option maxRecDepth 100000 in
theorem ok_183 : ∀ pc ai, tX8_copy pc = some ai → okI 183 pc ai = true := okR (LEN := 179) (fun pc ai h => condlt h) (by decide +kernel)
set_option maxRecDepth 100000 in
theorem ok_184 : ∀ pc ai, tX8_lay pc = some ai → okI 184 pc ai = true := okR (LEN := 179) (fun pc ai h => condlt h) (by decide +kernel)
set_option maxRecDepth 100000 in
theorem ok_185 : ∀ pc ai, tX8_ask pc = some ai → okI 185 pc ai = true := okR (LEN := 66) (fun pc ai h => condlt h) (by decide +kernel)
set_option maxRecDepth 100000 in
theorem ok_186 : ∀ pc ai, tX8_item pc = some ai → okI 186 pc ai = true := okR (LEN := 80) (fun pc ai h => condlt h) (by decide +kernel)
set_option maxRecDepth 100000 in
theorem ok_187 : ∀ pc ai, tX8_rest pc = some ai → okI 187 pc ai = true := okR (LEN := 63) (fun pc ai h => condlt h) (by decide +kernel)
set_option maxRecDepth 100000 in
theorem ok_188 : ∀ pc ai, tX8_tell pc = some ai → okI 188 pc ai = true := okR (LEN := 37) (fun pc ai h => condlt h) (by decide +kernel)
set_option maxRecDepth 100000 in
theorem ok_189 : ∀ pc ai, tX8_check pc = some ai → okI 189 pc ai = true := okR (LEN := 212) (fun pc ai h => condlt h) (by decide +kernel)
set_option maxRecDepth 100000 in
theorem ok_190 : ∀ pc ai, tX8_keep pc = some ai → okI 190 pc ai = true := okR (LEN := 23) (fun pc ai h => condlt h) (by decide +kernel)
set_option maxRecDepth 100000 in
theorem ok_191 : ∀ pc ai, tX8_back pc = some ai → okI 191 pc ai = true := okR (LEN := 29) (fun pc ai h => condlt h) (by decide +kernel)
set_option maxRecDepth 100000 in
theorem ok_192 : ∀ pc ai, tX8_count pc = some ai → okI 192 pc ai = true := okR (LEN := 102) (fun pc ai h => condlt h) (by decide +kernel)
set_option maxRecDepth 100000 in
theorem ok_193 : ∀ pc ai, tJ7_fill_53178 pc = some ai → okI 193 pc ai = true := okR (LEN := 21) (fun pc ai h => condlt h) (by decide +kernel)
set_option maxRecDepth 100000 in
theorem ok_194 : ∀ pc ai, tJ7_copyOf_59c91 pc = some ai → okI 194 pc ai = true := okR (LEN := 33) (fun pc ai h => condlt h) (by decide +kernel)
theorem okCd : ∀ (m pc : Nat) (ai : AI), cd m pc = some ai → okI m pc ai = true := by
  intro m pc ai h
  have hm : m < 195 := condlt h
  match m, hm with
  | 0, _ => exact ok_0 pc ai h
  | 1, _ => exact ok_1 pc ai h
  | 2, _ => exact ok_2 pc ai h
  | 3, _ => exact ok_3 pc ai h
  | 4, _ => exact ok_4 pc ai h
  | 5, _ => exact ok_5 pc ai h
  | 6, _ => exact ok_6 pc ai h
  | 7, _ => exact ok_7 pc ai h
  | 8, _ => exact ok_8 pc ai h
  | 9, _ => exact ok_9 pc ai h
  | 10, _ => exact ok_10 pc ai h
  | 11, _ => exact ok_11 pc ai h
  | 12, _ => exact ok_12 pc ai h
  | 13, _ => exact ok_13 pc ai h
  | 14, _ => exact ok_14 pc ai h
  | 15, _ => exact ok_15 pc ai h
  | 16, _ => exact ok_16 pc ai h
  | 17, _ => exact ok_17 pc ai h
  | 18, _ => exact ok_18 pc ai h
  | 19, _ => exact ok_19 pc ai h
  | 20, _ => exact ok_20 pc ai h
  | 21, _ => exact ok_21 pc ai h
  | 22, _ => exact ok_22 pc ai h
  | 23, _ => exact ok_23 pc ai h
  | 24, _ => exact ok_24 pc ai h
  | 25, _ => exact ok_25 pc ai h
  | 26, _ => exact ok_26 pc ai h
  | 27, _ => exact ok_27 pc ai h
  | 28, _ => exact ok_28 pc ai h
  | 29, _ => exact ok_29 pc ai h
  | 30, _ => exact ok_30 pc ai h
  | 31, _ => exact ok_31 pc ai h
  | 32, _ => exact ok_32 pc ai h
  | 33, _ => exact ok_33 pc ai h
  | 34, _ => exact ok_34 pc ai h
  | 35, _ => exact ok_35 pc ai h
  | 36, _ => exact ok_36 pc ai h
  | 37, _ => exact ok_37 pc ai h
  | 38, _ => exact ok_38 pc ai h
  | 39, _ => exact ok_39 pc ai h
  | 40, _ => exact ok_40 pc ai h
  | 41, _ => exact ok_41 pc ai h
  | 42, _ => exact ok_42 pc ai h
  | 43, _ => exact ok_43 pc ai h
  | 44, _ => exact ok_44 pc ai h
  | 45, _ => exact ok_45 pc ai h
  | 46, _ => exact ok_46 pc ai h
  | 47, _ => exact ok_47 pc ai h
  | 48, _ => exact ok_48 pc ai h
  | 49, _ => exact ok_49 pc ai h
  | 50, _ => exact ok_50 pc ai h
  | 51, _ => exact ok_51 pc ai h
  | 52, _ => exact ok_52 pc ai h
  | 53, _ => exact ok_53 pc ai h
  | 54, _ => exact ok_54 pc ai h
  | 55, _ => exact ok_55 pc ai h
  | 56, _ => exact ok_56 pc ai h
  | 57, _ => exact ok_57 pc ai h
  | 58, _ => exact ok_58 pc ai h
  | 59, _ => exact ok_59 pc ai h
  | 60, _ => exact ok_60 pc ai h
  | 61, _ => exact ok_61 pc ai h
  | 62, _ => exact ok_62 pc ai h
  | 63, _ => exact ok_63 pc ai h
  | 64, _ => exact ok_64 pc ai h
  | 65, _ => exact ok_65 pc ai h
  | 66, _ => exact ok_66 pc ai h
  | 67, _ => exact ok_67 pc ai h
  | 68, _ => exact ok_68 pc ai h
  | 69, _ => exact ok_69 pc ai h
  | 70, _ => exact ok_70 pc ai h
  | 71, _ => exact ok_71 pc ai h
  | 72, _ => exact ok_72 pc ai h
  | 73, _ => exact ok_73 pc ai h
  | 74, _ => exact ok_74 pc ai h
  | 75, _ => exact ok_75 pc ai h
  | 76, _ => exact ok_76 pc ai h
  | 77, _ => exact ok_77 pc ai h
  | 78, _ => exact ok_78 pc ai h
  | 79, _ => exact ok_79 pc ai h
  | 80, _ => exact ok_80 pc ai h
  | 81, _ => exact ok_81 pc ai h
  | 82, _ => exact ok_82 pc ai h
  | 83, _ => exact ok_83 pc ai h
  | 84, _ => exact ok_84 pc ai h
  | 85, _ => exact ok_85 pc ai h
  | 86, _ => exact ok_86 pc ai h
  | 87, _ => exact ok_87 pc ai h
  | 88, _ => exact ok_88 pc ai h
  | 89, _ => exact ok_89 pc ai h
  | 90, _ => exact ok_90 pc ai h
  | 91, _ => exact ok_91 pc ai h
  | 92, _ => exact ok_92 pc ai h
  | 93, _ => exact ok_93 pc ai h
  | 94, _ => exact ok_94 pc ai h
  | 95, _ => exact ok_95 pc ai h
  | 96, _ => exact ok_96 pc ai h
  | 97, _ => exact ok_97 pc ai h
  | 98, _ => exact ok_98 pc ai h
  | 99, _ => exact ok_99 pc ai h
  | 100, _ => exact ok_100 pc ai h
  | 101, _ => exact ok_101 pc ai h
  | 102, _ => exact ok_102 pc ai h
  | 103, _ => exact ok_103 pc ai h
  | 104, _ => exact ok_104 pc ai h
  | 105, _ => exact ok_105 pc ai h
  | 106, _ => exact ok_106 pc ai h
  | 107, _ => exact ok_107 pc ai h
  | 108, _ => exact ok_108 pc ai h
  | 109, _ => exact ok_109 pc ai h
  | 110, _ => exact ok_110 pc ai h
  | 111, _ => exact ok_111 pc ai h
  | 112, _ => exact ok_112 pc ai h
  | 113, _ => exact ok_113 pc ai h
  | 114, _ => exact ok_114 pc ai h
  | 115, _ => exact ok_115 pc ai h
  | 116, _ => exact ok_116 pc ai h
  | 117, _ => exact ok_117 pc ai h
  | 118, _ => exact ok_118 pc ai h
  | 119, _ => exact ok_119 pc ai h
  | 120, _ => exact ok_120 pc ai h
  | 121, _ => exact ok_121 pc ai h
  | 122, _ => exact ok_122 pc ai h
  | 123, _ => exact ok_123 pc ai h
  | 124, _ => exact ok_124 pc ai h
  | 125, _ => exact ok_125 pc ai h
  | 126, _ => exact ok_126 pc ai h
  | 127, _ => exact ok_127 pc ai h
  | 128, _ => exact ok_128 pc ai h
  | 129, _ => exact ok_129 pc ai h
  | 130, _ => exact ok_130 pc ai h
  | 131, _ => exact ok_131 pc ai h
  | 132, _ => exact ok_132 pc ai h
  | 133, _ => exact ok_133 pc ai h
  | 134, _ => exact ok_134 pc ai h
  | 135, _ => exact ok_135 pc ai h
  | 136, _ => exact ok_136 pc ai h
  | 137, _ => exact ok_137 pc ai h
  | 138, _ => exact ok_138 pc ai h
  | 139, _ => exact ok_139 pc ai h
  | 140, _ => exact ok_140 pc ai h
  | 141, _ => exact ok_141 pc ai h
  | 142, _ => exact ok_142 pc ai h
  | 143, _ => exact ok_143 pc ai h
  | 144, _ => exact ok_144 pc ai h
  | 145, _ => exact ok_145 pc ai h
  | 146, _ => exact ok_146 pc ai h
  | 147, _ => exact ok_147 pc ai h
  | 148, _ => exact ok_148 pc ai h
  | 149, _ => exact ok_149 pc ai h
  | 150, _ => exact ok_150 pc ai h
  | 151, _ => exact ok_151 pc ai h
  | 152, _ => exact ok_152 pc ai h
  | 153, _ => exact ok_153 pc ai h
  | 154, _ => exact ok_154 pc ai h
  | 155, _ => exact ok_155 pc ai h
  | 156, _ => exact ok_156 pc ai h
  | 157, _ => exact ok_157 pc ai h
  | 158, _ => exact ok_158 pc ai h
  | 159, _ => exact ok_159 pc ai h
  | 160, _ => exact ok_160 pc ai h
  | 161, _ => exact ok_161 pc ai h
  | 162, _ => exact ok_162 pc ai h
  | 163, _ => exact ok_163 pc ai h
  | 164, _ => exact ok_164 pc ai h
  | 165, _ => exact ok_165 pc ai h
  | 166, _ => exact ok_166 pc ai h
  | 167, _ => exact ok_167 pc ai h
  | 168, _ => exact ok_168 pc ai h
  | 169, _ => exact ok_169 pc ai h
  | 170, _ => exact ok_170 pc ai h
  | 171, _ => exact ok_171 pc ai h
  | 172, _ => exact ok_172 pc ai h
  | 173, _ => exact ok_173 pc ai h
  | 174, _ => exact ok_174 pc ai h
  | 175, _ => exact ok_175 pc ai h
  | 176, _ => exact ok_176 pc ai h
  | 177, _ => exact ok_177 pc ai h
  | 178, _ => exact ok_178 pc ai h
  | 179, _ => exact ok_179 pc ai h
  | 180, _ => exact ok_180 pc ai h
  | 181, _ => exact ok_181 pc ai h
  | 182, _ => exact ok_182 pc ai h
  | 183, _ => exact ok_183 pc ai h
  | 184, _ => exact ok_184 pc ai h
  | 185, _ => exact ok_185 pc ai h
  | 186, _ => exact ok_186 pc ai h
  | 187, _ => exact ok_187 pc ai h
  | 188, _ => exact ok_188 pc ai h
  | 189, _ => exact ok_189 pc ai h
  | 190, _ => exact ok_190 pc ai h
  | 191, _ => exact ok_191 pc ai h
  | 192, _ => exact ok_192 pc ai h
  | 193, _ => exact ok_193 pc ai h
  | 194, _ => exact ok_194 pc ai h
  | n + 195, hm => exact absurd hm (by omega)
theorem okMs : ∀ m, m < NM → ∃ p0 p1 p2 p3, okMB m p0 p1 p2 p3 = true := by
  intro m hm
  match m, hm with
  | 0, _ => exact ⟨111, 58, 110, 0, okm_0⟩
  | 1, _ => exact ⟨473, 58, 471, 472, okm_1⟩
  | 2, _ => exact ⟨391, 58, 389, 390, okm_2⟩
  | 3, _ => exact ⟨373, 58, 371, 372, okm_3⟩
  | 4, _ => exact ⟨378, 58, 376, 377, okm_4⟩
  | 5, _ => exact ⟨383, 58, 381, 382, okm_5⟩
  | 6, _ => exact ⟨84, 56, 83, 0, okm_6⟩
  | 7, _ => exact ⟨352, 56, 350, 351, okm_7⟩
  | 8, _ => exact ⟨360, 56, 359, 0, okm_8⟩
  | 9, _ => exact ⟨356, 56, 354, 355, okm_9⟩
  | 10, _ => exact ⟨199, 60, 198, 0, okm_10⟩
  | 11, _ => exact ⟨602, 60, 601, 9, okm_11⟩
  | 12, _ => exact ⟨605, 60, 604, 0, okm_12⟩
  | 13, _ => exact ⟨608, 60, 607, 0, okm_13⟩
  | 14, _ => exact ⟨598, 60, 597, 8, okm_14⟩
  | 15, _ => exact ⟨617, 60, 616, 11, okm_15⟩
  | 16, _ => exact ⟨612, 60, 611, 10, okm_16⟩
  | 17, _ => exact ⟨748, 60, 747, 0, okm_17⟩
  | 18, _ => exact ⟨745, 60, 744, 16, okm_18⟩
  | 19, _ => exact ⟨679, 60, 678, 14, okm_19⟩
  | 20, _ => exact ⟨741, 60, 740, 15, okm_20⟩
  | 21, _ => exact ⟨671, 60, 670, 12, okm_21⟩
  | 22, _ => exact ⟨675, 60, 674, 13, okm_22⟩
  | 23, _ => exact ⟨593, 60, 591, 592, okm_23⟩
  | 24, _ => exact ⟨752, 60, 750, 751, okm_24⟩
  | 25, _ => exact ⟨237, 61, 236, 0, okm_25⟩
  | 26, _ => exact ⟨800, 61, 798, 799, okm_26⟩
  | 27, _ => exact ⟨839, 61, 837, 838, okm_27⟩
  | 28, _ => exact ⟨539, 61, 537, 538, okm_28⟩
  | 29, _ => exact ⟨553, 61, 551, 552, okm_29⟩
  | 30, _ => exact ⟨826, 61, 824, 825, okm_30⟩
  | 31, _ => exact ⟨549, 61, 547, 548, okm_31⟩
  | 32, _ => exact ⟨257, 62, 256, 0, okm_32⟩
  | 33, _ => exact ⟨769, 71, 768, 0, okm_33⟩
  | 34, _ => exact ⟨104, 57, 103, 0, okm_34⟩
  | 35, _ => exact ⟨505, 57, 503, 504, okm_35⟩
  | 36, _ => exact ⟨336, 57, 334, 335, okm_36⟩
  | 37, _ => exact ⟨434, 57, 432, 433, okm_37⟩
  | 38, _ => exact ⟨430, 57, 428, 429, okm_38⟩
  | 39, _ => exact ⟨348, 57, 346, 347, okm_39⟩
  | 40, _ => exact ⟨452, 57, 451, 1, okm_40⟩
  | 41, _ => exact ⟨460, 57, 459, 2, okm_41⟩
  | 42, _ => exact ⟨469, 57, 468, 4, okm_42⟩
  | 43, _ => exact ⟨465, 57, 464, 3, okm_43⟩
  | 44, _ => exact ⟨448, 57, 446, 447, okm_44⟩
  | 45, _ => exact ⟨565, 57, 563, 564, okm_45⟩
  | 46, _ => exact ⟨573, 57, 571, 572, okm_46⟩
  | 47, _ => exact ⟨418, 57, 416, 417, okm_47⟩
  | 48, _ => exact ⟨481, 57, 479, 480, okm_48⟩
  | 49, _ => exact ⟨485, 57, 483, 484, okm_49⟩
  | 50, _ => exact ⟨489, 57, 487, 488, okm_50⟩
  | 51, _ => exact ⟨327, 55, 326, 0, okm_51⟩
  | 52, _ => exact ⟨363, 55, 362, 0, okm_52⟩
  | 53, _ => exact ⟨76, 55, 75, 0, okm_53⟩
  | 54, _ => exact ⟨324, 55, 323, 0, okm_54⟩
  | 55, _ => exact ⟨330, 55, 329, 0, okm_55⟩
  | 56, _ => exact ⟨321, 55, 319, 320, okm_56⟩
  | 57, _ => exact ⟨344, 55, 343, 0, okm_57⟩
  | 58, _ => exact ⟨340, 55, 338, 339, okm_58⟩
  | 59, _ => exact ⟨387, 55, 385, 386, okm_59⟩
  | 60, _ => exact ⟨398, 55, 396, 397, okm_60⟩
  | 61, _ => exact ⟨402, 55, 400, 401, okm_61⟩
  | 62, _ => exact ⟨406, 55, 404, 405, okm_62⟩
  | 63, _ => exact ⟨410, 55, 408, 409, okm_63⟩
  | 64, _ => exact ⟨414, 55, 412, 413, okm_64⟩
  | 65, _ => exact ⟨422, 55, 420, 421, okm_65⟩
  | 66, _ => exact ⟨426, 55, 424, 425, okm_66⟩
  | 67, _ => exact ⟨440, 55, 438, 439, okm_67⟩
  | 68, _ => exact ⟨444, 55, 442, 443, okm_68⟩
  | 69, _ => exact ⟨477, 55, 475, 476, okm_69⟩
  | 70, _ => exact ⟨496, 55, 495, 0, okm_70⟩
  | 71, _ => exact ⟨493, 55, 491, 492, okm_71⟩
  | 72, _ => exact ⟨501, 55, 499, 500, okm_72⟩
  | 73, _ => exact ⟨512, 55, 510, 511, okm_73⟩
  | 74, _ => exact ⟨520, 55, 519, 5, okm_74⟩
  | 75, _ => exact ⟨516, 55, 514, 515, okm_75⟩
  | 76, _ => exact ⟨524, 55, 522, 523, okm_76⟩
  | 77, _ => exact ⟨528, 55, 526, 527, okm_77⟩
  | 78, _ => exact ⟨535, 55, 534, 0, okm_78⟩
  | 79, _ => exact ⟨544, 55, 543, 6, okm_79⟩
  | 80, _ => exact ⟨532, 55, 530, 531, okm_80⟩
  | 81, _ => exact ⟨561, 55, 559, 560, okm_81⟩
  | 82, _ => exact ⟨569, 55, 567, 568, okm_82⟩
  | 83, _ => exact ⟨581, 55, 580, 7, okm_83⟩
  | 84, _ => exact ⟨577, 55, 575, 576, okm_84⟩
  | 85, _ => exact ⟨585, 55, 583, 584, okm_85⟩
  | 86, _ => exact ⟨589, 55, 587, 588, okm_86⟩
  | 87, _ => exact ⟨787, 55, 785, 786, okm_87⟩
  | 88, _ => exact ⟨791, 55, 789, 790, okm_88⟩
  | 89, _ => exact ⟨795, 55, 793, 794, okm_89⟩
  | 90, _ => exact ⟨805, 55, 803, 804, okm_90⟩
  | 91, _ => exact ⟨813, 55, 811, 812, okm_91⟩
  | 92, _ => exact ⟨818, 55, 816, 817, okm_92⟩
  | 93, _ => exact ⟨822, 55, 820, 821, okm_93⟩
  | 94, _ => exact ⟨834, 55, 833, 0, okm_94⟩
  | 95, _ => exact ⟨831, 55, 829, 830, okm_95⟩
  | 96, _ => exact ⟨844, 55, 842, 843, okm_96⟩
  | 97, _ => exact ⟨848, 55, 846, 847, okm_97⟩
  | 98, _ => exact ⟨852, 55, 850, 851, okm_98⟩
  | 99, _ => exact ⟨857, 55, 855, 856, okm_99⟩
  | 100, _ => exact ⟨865, 55, 864, 17, okm_100⟩
  | 101, _ => exact ⟨861, 55, 859, 860, okm_101⟩
  | 102, _ => exact ⟨869, 55, 867, 868, okm_102⟩
  | 103, _ => exact ⟨873, 55, 871, 872, okm_103⟩
  | 104, _ => exact ⟨877, 55, 875, 876, okm_104⟩
  | 105, _ => exact ⟨882, 63, 881, 0, okm_105⟩
  | 106, _ => exact ⟨1001, 63, 1000, 0, okm_106⟩
  | 107, _ => exact ⟨1033, 63, 1032, 0, okm_107⟩
  | 108, _ => exact ⟨1173, 63, 1172, 0, okm_108⟩
  | 109, _ => exact ⟨1022, 63, 1021, 20, okm_109⟩
  | 110, _ => exact ⟨1004, 63, 1003, 0, okm_110⟩
  | 111, _ => exact ⟨1026, 63, 1025, 21, okm_111⟩
  | 112, _ => exact ⟨1014, 63, 1013, 19, okm_112⟩
  | 113, _ => exact ⟨1068, 63, 1067, 27, okm_113⟩
  | 114, _ => exact ⟨1208, 63, 1207, 0, okm_114⟩
  | 115, _ => exact ⟨1041, 63, 1040, 24, okm_115⟩
  | 116, _ => exact ⟨1048, 63, 1047, 0, okm_116⟩
  | 117, _ => exact ⟨1045, 63, 1044, 25, okm_117⟩
  | 118, _ => exact ⟨1037, 63, 1036, 23, okm_118⟩
  | 119, _ => exact ⟨1052, 63, 1051, 26, okm_119⟩
  | 120, _ => exact ⟨1030, 63, 1029, 22, okm_120⟩
  | 121, _ => exact ⟨1010, 63, 1009, 18, okm_121⟩
  | 122, _ => exact ⟨998, 63, 996, 997, okm_122⟩
  | 123, _ => exact ⟨1018, 63, 1016, 1017, okm_123⟩
  | 124, _ => exact ⟨1059, 63, 1058, 0, okm_124⟩
  | 125, _ => exact ⟨1056, 63, 1054, 1055, okm_125⟩
  | 126, _ => exact ⟨1064, 63, 1062, 1063, okm_126⟩
  | 127, _ => exact ⟨1076, 63, 1075, 28, okm_127⟩
  | 128, _ => exact ⟨1072, 63, 1070, 1071, okm_128⟩
  | 129, _ => exact ⟨1080, 63, 1078, 1079, okm_129⟩
  | 130, _ => exact ⟨1084, 63, 1082, 1083, okm_130⟩
  | 131, _ => exact ⟨1088, 63, 1086, 1087, okm_131⟩
  | 132, _ => exact ⟨1092, 63, 1090, 1091, okm_132⟩
  | 133, _ => exact ⟨1100, 63, 1099, 29, okm_133⟩
  | 134, _ => exact ⟨1096, 63, 1094, 1095, okm_134⟩
  | 135, _ => exact ⟨1105, 63, 1103, 1104, okm_135⟩
  | 136, _ => exact ⟨1125, 63, 1124, 33, okm_136⟩
  | 137, _ => exact ⟨1121, 63, 1120, 32, okm_137⟩
  | 138, _ => exact ⟨1129, 63, 1128, 34, okm_138⟩
  | 139, _ => exact ⟨1137, 63, 1136, 36, okm_139⟩
  | 140, _ => exact ⟨1133, 63, 1132, 35, okm_140⟩
  | 141, _ => exact ⟨1117, 63, 1116, 31, okm_141⟩
  | 142, _ => exact ⟨1113, 63, 1112, 30, okm_142⟩
  | 143, _ => exact ⟨1109, 63, 1107, 1108, okm_143⟩
  | 144, _ => exact ⟨1145, 63, 1144, 37, okm_144⟩
  | 145, _ => exact ⟨1149, 63, 1148, 38, okm_145⟩
  | 146, _ => exact ⟨1153, 63, 1152, 39, okm_146⟩
  | 147, _ => exact ⟨1141, 63, 1139, 1140, okm_147⟩
  | 148, _ => exact ⟨1162, 63, 1161, 40, okm_148⟩
  | 149, _ => exact ⟨1158, 63, 1156, 1157, okm_149⟩
  | 150, _ => exact ⟨1170, 63, 1169, 41, okm_150⟩
  | 151, _ => exact ⟨1177, 63, 1176, 42, okm_151⟩
  | 152, _ => exact ⟨1166, 63, 1164, 1165, okm_152⟩
  | 153, _ => exact ⟨1181, 63, 1179, 1180, okm_153⟩
  | 154, _ => exact ⟨1189, 63, 1188, 43, okm_154⟩
  | 155, _ => exact ⟨1185, 63, 1183, 1184, okm_155⟩
  | 156, _ => exact ⟨1193, 63, 1191, 1192, okm_156⟩
  | 157, _ => exact ⟨1197, 63, 1195, 1196, okm_157⟩
  | 158, _ => exact ⟨1204, 63, 1203, 0, okm_158⟩
  | 159, _ => exact ⟨1201, 63, 1199, 1200, okm_159⟩
  | 160, _ => exact ⟨1212, 63, 1210, 1211, okm_160⟩
  | 161, _ => exact ⟨1216, 63, 1214, 1215, okm_161⟩
  | 162, _ => exact ⟨1220, 63, 1218, 1219, okm_162⟩
  | 163, _ => exact ⟨1224, 63, 1222, 1223, okm_163⟩
  | 164, _ => exact ⟨1236, 63, 1235, 45, okm_164⟩
  | 165, _ => exact ⟨1240, 63, 1239, 46, okm_165⟩
  | 166, _ => exact ⟨1232, 63, 1231, 44, okm_166⟩
  | 167, _ => exact ⟨1244, 63, 1243, 47, okm_167⟩
  | 168, _ => exact ⟨1256, 63, 1255, 50, okm_168⟩
  | 169, _ => exact ⟨1263, 63, 1262, 0, okm_169⟩
  | 170, _ => exact ⟨1260, 63, 1259, 51, okm_170⟩
  | 171, _ => exact ⟨1271, 63, 1270, 53, okm_171⟩
  | 172, _ => exact ⟨1252, 63, 1251, 49, okm_172⟩
  | 173, _ => exact ⟨1267, 63, 1266, 52, okm_173⟩
  | 174, _ => exact ⟨1248, 63, 1247, 48, okm_174⟩
  | 175, _ => exact ⟨1228, 63, 1226, 1227, okm_175⟩
  | 176, _ => exact ⟨1275, 63, 1273, 1274, okm_176⟩
  | 177, _ => exact ⟨1279, 63, 1277, 1278, okm_177⟩
  | 178, _ => exact ⟨1310, 63, 1309, 0, okm_178⟩
  | 179, _ => exact ⟨1283, 63, 1281, 1282, okm_179⟩
  | 180, _ => exact ⟨1288, 63, 1286, 1287, okm_180⟩
  | 181, _ => exact ⟨1295, 63, 1293, 1294, okm_181⟩
  | 182, _ => exact ⟨1299, 63, 1297, 1298, okm_182⟩
  | 183, _ => exact ⟨1303, 63, 1301, 1302, okm_183⟩
  | 184, _ => exact ⟨1307, 63, 1305, 1306, okm_184⟩
  | 185, _ => exact ⟨1314, 63, 1312, 1313, okm_185⟩
  | 186, _ => exact ⟨1318, 63, 1316, 1317, okm_186⟩
  | 187, _ => exact ⟨1322, 63, 1320, 1321, okm_187⟩
  | 188, _ => exact ⟨1327, 63, 1325, 1326, okm_188⟩
  | 189, _ => exact ⟨1331, 63, 1329, 1330, okm_189⟩
  | 190, _ => exact ⟨1335, 63, 1333, 1334, okm_190⟩
  | 191, _ => exact ⟨1339, 63, 1337, 1338, okm_191⟩
  | 192, _ => exact ⟨1343, 63, 1341, 1342, okm_192⟩
  | 193, _ => exact ⟨141, 59, 140, 0, okm_193⟩
  | 194, _ => exact ⟨757, 59, 756, 0, okm_194⟩
  | n + 195, hm => exact absurd hm (by unfold NM; omega)
