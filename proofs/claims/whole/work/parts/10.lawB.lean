theorem wcw_L_about : Cond.codeWith yL_about cL_about 4 (some .int) [(0, 9, 12, 13)] ∈ lw_good := wm 621 (by decide +kernel) (by decide +kernel)
theorem wcw_L_addTeam : Cond.codeWith yL_addTeam cL_addTeam 3 (some .int) [(0, 8, 11, 15)] ∈ lw_good := wm 794 (by decide +kernel) (by decide +kernel)
theorem wcw_L_append : Cond.codeWith yL_append cL_append 4 (some .int) [(0, 9, 12, 13), (0, 9, 15, 15)] ∈ lw_good := wm 484 (by decide +kernel) (by decide +kernel)
theorem wcw_L_ease : Cond.codeWith yL_ease cL_ease 4 (some .int) [(0, 9, 12, 28)] ∈ lw_good := wm 901 (by decide +kernel) (by decide +kernel)
theorem wcw_L_giveUp : Cond.codeWith yL_giveUp cL_giveUp 4 (some .int) [(0, 9, 12, 28)] ∈ lw_good := wm 874 (by decide +kernel) (by decide +kernel)
theorem wcw_L_go : Cond.codeWith yL_go cL_go 5 (some .int) [(0, 10, 13, 28), (0, 10, 17, 15)] ∈ lw_good := wm 823 (by decide +kernel) (by decide +kernel)
theorem wcw_L_hint : Cond.codeWith yL_hint cL_hint 4 (some .int) [(0, 9, 12, 28), (0, 9, 15, 15)] ∈ lw_good := wm 852 (by decide +kernel) (by decide +kernel)
theorem wcw_L_holds : Cond.codeWith yL_holds cL_holds 5 (some .int) [(0, 17, 20, 28), (0, 17, 24, 13)] ∈ lw_good := wm 734 (by decide +kernel) (by decide +kernel)
theorem wcw_L_load : Cond.codeWith yL_load cL_load 3 (some .int) [(0, 8, 11, 15)] ∈ lw_good := wm 585 (by decide +kernel) (by decide +kernel)
theorem wcw_L_move : Cond.codeWith yL_move cL_move 6 (some .int) [(0, 12, 15, 28), (0, 12, 19, 13)] ∈ lw_good := wm 889 (by decide +kernel) (by decide +kernel)
theorem wcw_L_needed : Cond.codeWith yL_needed cL_needed 4 (some .int) [(0, 9, 12, 28)] ∈ lw_good := wm 1003 (by decide +kernel) (by decide +kernel)
theorem wcw_L_open : Cond.codeWith yL_open cL_open 4 (some .int) [(0, 9, 12, 28)] ∈ lw_good := wm 782 (by decide +kernel) (by decide +kernel)
theorem wcw_L_orders : Cond.codeWith yL_orders cL_orders 4 (some .int) [(0, 9, 12, 28)] ∈ lw_good := wm 985 (by decide +kernel) (by decide +kernel)
theorem wcw_L_place : Cond.codeWith yL_place cL_place 5 (some .int) [(0, 10, 13, 28), (0, 10, 17, 13)] ∈ lw_good := wm 684 (by decide +kernel) (by decide +kernel)
theorem wcw_L_quickest : Cond.codeWith yL_quickest cL_quickest 5 (some .int) [(0, 10, 13, 28), (0, 10, 17, 13)] ∈ lw_good := wm 948 (by decide +kernel) (by decide +kernel)
theorem wcw_L_restore : Cond.codeWith yL_restore cL_restore 4 (some .int) [(0, 9, 12, 28), (0, 9, 15, 15)] ∈ lw_good := wm 1124 (by decide +kernel) (by decide +kernel)
theorem wcw_L_runScript : Cond.codeWith yL_runScript cL_runScript 6 (some .int) [(0, 11, 14, 13)] ∈ lw_good := wm 1014 (by decide +kernel) (by decide +kernel)
theorem wcw_L_safe : Cond.codeWith yL_safe cL_safe 4 (some .int) [(0, 9, 12, 28)] ∈ lw_good := wm 996 (by decide +kernel) (by decide +kernel)
theorem wcw_L_save : Cond.codeWith yL_save cL_save 4 (some .int) [(0, 9, 12, 28)] ∈ lw_good := wm 1112 (by decide +kernel) (by decide +kernel)
theorem wcw_L_shortest : Cond.codeWith yL_shortest cL_shortest 5 (some .int) [(0, 10, 13, 28), (0, 10, 17, 13)] ∈ lw_good := wm 928 (by decide +kernel) (by decide +kernel)
theorem wcw_L_simulate : Cond.codeWith yL_simulate cL_simulate 6 (some .int) [(0, 11, 14, 13)] ∈ lw_good := wm 1081 (by decide +kernel) (by decide +kernel)
theorem wcw_L_team : Cond.codeWith yL_team cL_team 5 (some .int) [(0, 10, 13, 28), (0, 10, 17, 13)] ∈ lw_good := wm 744 (by decide +kernel) (by decide +kernel)
theorem wcw_L_trail : Cond.codeWith yL_trail cL_trail 5 (some .int) [(0, 10, 13, 28), (0, 10, 17, 13)] ∈ lw_good := wm 773 (by decide +kernel) (by decide +kernel)
theorem wcw_L_undo : Cond.codeWith yL_undo cL_undo 3 (some .int) [(0, 8, 11, 15)] ∈ lw_good := wm 912 (by decide +kernel) (by decide +kernel)
theorem wi_X10_about : Cond.instanceMethod yX10_about ∈ lw_good := wm 1295 (by decide +kernel) (by decide +kernel)
theorem wi_X10_addTeam : Cond.instanceMethod yX10_addTeam ∈ lw_good := wm 1366 (by decide +kernel) (by decide +kernel)
theorem wi_X10_append : Cond.instanceMethod yX10_append ∈ lw_good := wm 1220 (by decide +kernel) (by decide +kernel)
theorem wi_X10_clearText : Cond.instanceMethod yX10_clearText ∈ lw_good := wm 1232 (by decide +kernel) (by decide +kernel)
theorem wi_X10_deadEnds : Cond.instanceMethod yX10_deadEnds ∈ lw_good := wm 1471 (by decide +kernel) (by decide +kernel)
theorem wi_X10_ease : Cond.instanceMethod yX10_ease ∈ lw_good := wm 1423 (by decide +kernel) (by decide +kernel)
theorem wi_X10_easeBy : Cond.instanceMethod yX10_easeBy ∈ lw_good := wm 1479 (by decide +kernel) (by decide +kernel)
theorem wi_X10_errorPosition : Cond.instanceMethod yX10_errorPosition ∈ lw_good := wm 1236 (by decide +kernel) (by decide +kernel)
theorem wi_X10_giveUp : Cond.instanceMethod yX10_giveUp ∈ lw_good := wm 1412 (by decide +kernel) (by decide +kernel)
theorem wi_X10_go : Cond.instanceMethod yX10_go ∈ lw_good := wm 1380 (by decide +kernel) (by decide +kernel)
theorem wi_X10_hint : Cond.instanceMethod yX10_hint ∈ lw_good := wm 1393 (by decide +kernel) (by decide +kernel)
theorem wi_X10_holds : Cond.instanceMethod yX10_holds ∈ lw_good := wm 1337 (by decide +kernel) (by decide +kernel)
theorem wi_X10_load : Cond.instanceMethod yX10_load ∈ lw_good := wm 1288 (by decide +kernel) (by decide +kernel)
theorem wi_X10_move : Cond.instanceMethod yX10_move ∈ lw_good := wm 1419 (by decide +kernel) (by decide +kernel)
theorem wi_X10_needed : Cond.instanceMethod yX10_needed ∈ lw_good := wm 1467 (by decide +kernel) (by decide +kernel)
theorem wi_X10_open : Cond.instanceMethod yX10_open ∈ lw_good := wm 1356 (by decide +kernel) (by decide +kernel)
theorem wi_X10_orders : Cond.instanceMethod yX10_orders ∈ lw_good := wm 1459 (by decide +kernel) (by decide +kernel)
theorem wi_X10_place : Cond.instanceMethod yX10_place ∈ lw_good := wm 1322 (by decide +kernel) (by decide +kernel)
theorem wi_X10_quickest : Cond.instanceMethod yX10_quickest ∈ lw_good := wm 1443 (by decide +kernel) (by decide +kernel)
theorem wi_X10_restore : Cond.instanceMethod yX10_restore ∈ lw_good := wm 1517 (by decide +kernel) (by decide +kernel)
theorem wi_X10_runScript : Cond.instanceMethod yX10_runScript ∈ lw_good := wm 1487 (by decide +kernel) (by decide +kernel)
theorem wi_X10_safe : Cond.instanceMethod yX10_safe ∈ lw_good := wm 1463 (by decide +kernel) (by decide +kernel)
theorem wi_X10_save : Cond.instanceMethod yX10_save ∈ lw_good := wm 1513 (by decide +kernel) (by decide +kernel)
theorem wi_X10_shortest : Cond.instanceMethod yX10_shortest ∈ lw_good := wm 1434 (by decide +kernel) (by decide +kernel)
theorem wi_X10_simulate : Cond.instanceMethod yX10_simulate ∈ lw_good := wm 1501 (by decide +kernel) (by decide +kernel)
theorem wi_X10_team : Cond.instanceMethod yX10_team ∈ lw_good := wm 1341 (by decide +kernel) (by decide +kernel)
theorem wi_X10_thrown : Cond.instanceMethod yX10_thrown ∈ lw_good := wm 1216 (by decide +kernel) (by decide +kernel)
theorem wi_X10_trail : Cond.instanceMethod yX10_trail ∈ lw_good := wm 1352 (by decide +kernel) (by decide +kernel)
theorem wi_X10_undo : Cond.instanceMethod yX10_undo ∈ lw_good := wm 1430 (by decide +kernel) (by decide +kernel)
theorem wi_X9_clearText : Cond.instanceMethod yX9_clearText ∈ lw_good := wm 323 (by decide +kernel) (by decide +kernel)
theorem wi_X9_deadEnds : Cond.instanceMethod yX9_deadEnds ∈ lw_good := wm 436 (by decide +kernel) (by decide +kernel)
theorem wi_X9_easeBy : Cond.instanceMethod yX9_easeBy ∈ lw_good := wm 475 (by decide +kernel) (by decide +kernel)
theorem wi_X9_errorPosition : Cond.instanceMethod yX9_errorPosition ∈ lw_good := wm 331 (by decide +kernel) (by decide +kernel)
theorem wkl_L_183 : Cond.constantLong RL 183 (4294967295 : Int64) ∈ lw_good := wm 1520 (by decide +kernel) (by decide +kernel)
theorem wl_L_103 : Cond.methodLink RL 103 yX10_append ∈ lw_good := wm 1219 (by decide +kernel) (by decide +kernel)
theorem wl_L_104 : Cond.methodLink RL 104 yX10_thrown ∈ lw_good := wm 1215 (by decide +kernel) (by decide +kernel)
theorem wl_L_107 : Cond.methodLink RL 107 yX9_clearText ∈ lw_good := wm 322 (by decide +kernel) (by decide +kernel)
theorem wl_L_110 : Cond.methodLink RL 110 yX10_clearText ∈ lw_good := wm 1231 (by decide +kernel) (by decide +kernel)
theorem wl_L_111 : Cond.methodLink RL 111 yX9_errorPosition ∈ lw_good := wm 330 (by decide +kernel) (by decide +kernel)
theorem wl_L_114 : Cond.methodLink RL 114 yX10_errorPosition ∈ lw_good := wm 1235 (by decide +kernel) (by decide +kernel)
theorem wl_L_115 : Cond.methodLink RL 115 yL_load ∈ lw_good := wm 583 (by decide +kernel) (by decide +kernel)
theorem wl_L_118 : Cond.methodLink RL 118 yX10_load ∈ lw_good := wm 1287 (by decide +kernel) (by decide +kernel)
theorem wl_L_119 : Cond.methodLink RL 119 yL_about ∈ lw_good := wm 619 (by decide +kernel) (by decide +kernel)
theorem wl_L_121 : Cond.methodLink RL 121 yX10_about ∈ lw_good := wm 1294 (by decide +kernel) (by decide +kernel)
theorem wl_L_122 : Cond.methodLink RL 122 yL_place ∈ lw_good := wm 682 (by decide +kernel) (by decide +kernel)
theorem wl_L_125 : Cond.methodLink RL 125 yX10_place ∈ lw_good := wm 1321 (by decide +kernel) (by decide +kernel)
theorem wl_L_126 : Cond.methodLink RL 126 yL_holds ∈ lw_good := wm 732 (by decide +kernel) (by decide +kernel)
theorem wl_L_128 : Cond.methodLink RL 128 yX10_holds ∈ lw_good := wm 1336 (by decide +kernel) (by decide +kernel)
theorem wl_L_129 : Cond.methodLink RL 129 yL_team ∈ lw_good := wm 742 (by decide +kernel) (by decide +kernel)
theorem wl_L_131 : Cond.methodLink RL 131 yX10_team ∈ lw_good := wm 1340 (by decide +kernel) (by decide +kernel)
theorem wl_L_132 : Cond.methodLink RL 132 yL_trail ∈ lw_good := wm 771 (by decide +kernel) (by decide +kernel)
theorem wl_L_134 : Cond.methodLink RL 134 yX10_trail ∈ lw_good := wm 1351 (by decide +kernel) (by decide +kernel)
theorem wl_L_135 : Cond.methodLink RL 135 yL_open ∈ lw_good := wm 780 (by decide +kernel) (by decide +kernel)
theorem wl_L_137 : Cond.methodLink RL 137 yX10_open ∈ lw_good := wm 1355 (by decide +kernel) (by decide +kernel)
theorem wl_L_138 : Cond.methodLink RL 138 yL_addTeam ∈ lw_good := wm 792 (by decide +kernel) (by decide +kernel)
theorem wl_L_140 : Cond.methodLink RL 140 yX10_addTeam ∈ lw_good := wm 1365 (by decide +kernel) (by decide +kernel)
theorem wl_L_141 : Cond.methodLink RL 141 yL_go ∈ lw_good := wm 821 (by decide +kernel) (by decide +kernel)
theorem wl_L_143 : Cond.methodLink RL 143 yX10_go ∈ lw_good := wm 1379 (by decide +kernel) (by decide +kernel)
theorem wl_L_144 : Cond.methodLink RL 144 yL_hint ∈ lw_good := wm 850 (by decide +kernel) (by decide +kernel)
theorem wl_L_146 : Cond.methodLink RL 146 yX10_hint ∈ lw_good := wm 1392 (by decide +kernel) (by decide +kernel)
theorem wl_L_147 : Cond.methodLink RL 147 yL_giveUp ∈ lw_good := wm 872 (by decide +kernel) (by decide +kernel)
theorem wl_L_149 : Cond.methodLink RL 149 yX10_giveUp ∈ lw_good := wm 1411 (by decide +kernel) (by decide +kernel)
theorem wl_L_150 : Cond.methodLink RL 150 yL_move ∈ lw_good := wm 887 (by decide +kernel) (by decide +kernel)
theorem wl_L_153 : Cond.methodLink RL 153 yX10_move ∈ lw_good := wm 1418 (by decide +kernel) (by decide +kernel)
theorem wl_L_154 : Cond.methodLink RL 154 yL_ease ∈ lw_good := wm 899 (by decide +kernel) (by decide +kernel)
theorem wl_L_156 : Cond.methodLink RL 156 yX10_ease ∈ lw_good := wm 1422 (by decide +kernel) (by decide +kernel)
theorem wl_L_157 : Cond.methodLink RL 157 yL_undo ∈ lw_good := wm 910 (by decide +kernel) (by decide +kernel)
theorem wl_L_159 : Cond.methodLink RL 159 yX10_undo ∈ lw_good := wm 1429 (by decide +kernel) (by decide +kernel)
theorem wl_L_160 : Cond.methodLink RL 160 yL_shortest ∈ lw_good := wm 926 (by decide +kernel) (by decide +kernel)
theorem wl_L_162 : Cond.methodLink RL 162 yX10_shortest ∈ lw_good := wm 1433 (by decide +kernel) (by decide +kernel)
theorem wl_L_163 : Cond.methodLink RL 163 yL_quickest ∈ lw_good := wm 946 (by decide +kernel) (by decide +kernel)
theorem wl_L_165 : Cond.methodLink RL 165 yX10_quickest ∈ lw_good := wm 1442 (by decide +kernel) (by decide +kernel)
theorem wl_L_166 : Cond.methodLink RL 166 yL_orders ∈ lw_good := wm 983 (by decide +kernel) (by decide +kernel)
theorem wl_L_168 : Cond.methodLink RL 168 yX10_orders ∈ lw_good := wm 1458 (by decide +kernel) (by decide +kernel)
theorem wl_L_169 : Cond.methodLink RL 169 yL_safe ∈ lw_good := wm 994 (by decide +kernel) (by decide +kernel)
theorem wl_L_171 : Cond.methodLink RL 171 yX10_safe ∈ lw_good := wm 1462 (by decide +kernel) (by decide +kernel)
theorem wl_L_172 : Cond.methodLink RL 172 yL_needed ∈ lw_good := wm 1001 (by decide +kernel) (by decide +kernel)
theorem wl_L_174 : Cond.methodLink RL 174 yX10_needed ∈ lw_good := wm 1466 (by decide +kernel) (by decide +kernel)
theorem wl_L_175 : Cond.methodLink RL 175 yX9_deadEnds ∈ lw_good := wm 435 (by decide +kernel) (by decide +kernel)
theorem wl_L_178 : Cond.methodLink RL 178 yX10_deadEnds ∈ lw_good := wm 1470 (by decide +kernel) (by decide +kernel)
theorem wl_L_179 : Cond.methodLink RL 179 yX9_easeBy ∈ lw_good := wm 474 (by decide +kernel) (by decide +kernel)
theorem wl_L_182 : Cond.methodLink RL 182 yX10_easeBy ∈ lw_good := wm 1478 (by decide +kernel) (by decide +kernel)
theorem wl_L_185 : Cond.methodLink RL 185 yL_runScript ∈ lw_good := wm 1012 (by decide +kernel) (by decide +kernel)
theorem wl_L_188 : Cond.methodLink RL 188 yX10_runScript ∈ lw_good := wm 1486 (by decide +kernel) (by decide +kernel)
theorem wl_L_189 : Cond.methodLink RL 189 yL_simulate ∈ lw_good := wm 1079 (by decide +kernel) (by decide +kernel)
theorem wl_L_192 : Cond.methodLink RL 192 yX10_simulate ∈ lw_good := wm 1500 (by decide +kernel) (by decide +kernel)
theorem wl_L_193 : Cond.methodLink RL 193 yL_save ∈ lw_good := wm 1110 (by decide +kernel) (by decide +kernel)
theorem wl_L_195 : Cond.methodLink RL 195 yX10_save ∈ lw_good := wm 1512 (by decide +kernel) (by decide +kernel)
theorem wl_L_196 : Cond.methodLink RL 196 yL_restore ∈ lw_good := wm 1122 (by decide +kernel) (by decide +kernel)
theorem wl_L_198 : Cond.methodLink RL 198 yX10_restore ∈ lw_good := wm 1516 (by decide +kernel) (by decide +kernel)
theorem wl_L_98 : Cond.methodLink RL 98 yL_append ∈ lw_good := wm 482 (by decide +kernel) (by decide +kernel)
theorem wn_L : Cond.initialized RL ∈ lw_good := wm 58 (by decide +kernel) (by decide +kernel)
theorem ws_X10_about : Cond.selects RX10 yX10_about yX10_about ∈ lw_good := wm 1296 (by decide +kernel) (by decide +kernel)
theorem ws_X10_addTeam : Cond.selects RX10 yX10_addTeam yX10_addTeam ∈ lw_good := wm 1367 (by decide +kernel) (by decide +kernel)
theorem ws_X10_append : Cond.selects RX10 yX10_append yX10_append ∈ lw_good := wm 1221 (by decide +kernel) (by decide +kernel)
theorem ws_X10_clearText : Cond.selects RX10 yX10_clearText yX10_clearText ∈ lw_good := wm 1233 (by decide +kernel) (by decide +kernel)
theorem ws_X10_deadEnds : Cond.selects RX10 yX10_deadEnds yX10_deadEnds ∈ lw_good := wm 1472 (by decide +kernel) (by decide +kernel)
theorem ws_X10_ease : Cond.selects RX10 yX10_ease yX10_ease ∈ lw_good := wm 1424 (by decide +kernel) (by decide +kernel)
theorem ws_X10_easeBy : Cond.selects RX10 yX10_easeBy yX10_easeBy ∈ lw_good := wm 1480 (by decide +kernel) (by decide +kernel)
theorem ws_X10_errorPosition : Cond.selects RX10 yX10_errorPosition yX10_errorPosition ∈ lw_good := wm 1237 (by decide +kernel) (by decide +kernel)
theorem ws_X10_giveUp : Cond.selects RX10 yX10_giveUp yX10_giveUp ∈ lw_good := wm 1413 (by decide +kernel) (by decide +kernel)
theorem ws_X10_go : Cond.selects RX10 yX10_go yX10_go ∈ lw_good := wm 1381 (by decide +kernel) (by decide +kernel)
theorem ws_X10_hint : Cond.selects RX10 yX10_hint yX10_hint ∈ lw_good := wm 1394 (by decide +kernel) (by decide +kernel)
theorem ws_X10_holds : Cond.selects RX10 yX10_holds yX10_holds ∈ lw_good := wm 1338 (by decide +kernel) (by decide +kernel)
theorem ws_X10_load : Cond.selects RX10 yX10_load yX10_load ∈ lw_good := wm 1289 (by decide +kernel) (by decide +kernel)
theorem ws_X10_move : Cond.selects RX10 yX10_move yX10_move ∈ lw_good := wm 1420 (by decide +kernel) (by decide +kernel)
theorem ws_X10_needed : Cond.selects RX10 yX10_needed yX10_needed ∈ lw_good := wm 1468 (by decide +kernel) (by decide +kernel)
theorem ws_X10_open : Cond.selects RX10 yX10_open yX10_open ∈ lw_good := wm 1357 (by decide +kernel) (by decide +kernel)
theorem ws_X10_orders : Cond.selects RX10 yX10_orders yX10_orders ∈ lw_good := wm 1460 (by decide +kernel) (by decide +kernel)
theorem ws_X10_place : Cond.selects RX10 yX10_place yX10_place ∈ lw_good := wm 1323 (by decide +kernel) (by decide +kernel)
theorem ws_X10_quickest : Cond.selects RX10 yX10_quickest yX10_quickest ∈ lw_good := wm 1444 (by decide +kernel) (by decide +kernel)
theorem ws_X10_restore : Cond.selects RX10 yX10_restore yX10_restore ∈ lw_good := wm 1518 (by decide +kernel) (by decide +kernel)
theorem ws_X10_runScript : Cond.selects RX10 yX10_runScript yX10_runScript ∈ lw_good := wm 1488 (by decide +kernel) (by decide +kernel)
theorem ws_X10_safe : Cond.selects RX10 yX10_safe yX10_safe ∈ lw_good := wm 1464 (by decide +kernel) (by decide +kernel)
theorem ws_X10_save : Cond.selects RX10 yX10_save yX10_save ∈ lw_good := wm 1514 (by decide +kernel) (by decide +kernel)
theorem ws_X10_shortest : Cond.selects RX10 yX10_shortest yX10_shortest ∈ lw_good := wm 1435 (by decide +kernel) (by decide +kernel)
theorem ws_X10_simulate : Cond.selects RX10 yX10_simulate yX10_simulate ∈ lw_good := wm 1502 (by decide +kernel) (by decide +kernel)
theorem ws_X10_team : Cond.selects RX10 yX10_team yX10_team ∈ lw_good := wm 1342 (by decide +kernel) (by decide +kernel)
theorem ws_X10_thrown : Cond.selects RX10 yX10_thrown yX10_thrown ∈ lw_good := wm 1217 (by decide +kernel) (by decide +kernel)
theorem ws_X10_trail : Cond.selects RX10 yX10_trail yX10_trail ∈ lw_good := wm 1353 (by decide +kernel) (by decide +kernel)
theorem ws_X10_undo : Cond.selects RX10 yX10_undo yX10_undo ∈ lw_good := wm 1431 (by decide +kernel) (by decide +kernel)
theorem ws_X9_clearText : Cond.selects RX9 yX9_clearText yX9_clearText ∈ lw_good := wm 324 (by decide +kernel) (by decide +kernel)
theorem ws_X9_deadEnds : Cond.selects RX9 yX9_deadEnds yX9_deadEnds ∈ lw_good := wm 437 (by decide +kernel) (by decide +kernel)
theorem ws_X9_easeBy : Cond.selects RX9 yX9_easeBy yX9_easeBy ∈ lw_good := wm 476 (by decide +kernel) (by decide +kernel)
theorem ws_X9_errorPosition : Cond.selects RX9 yX9_errorPosition yX9_errorPosition ∈ lw_good := wm 332 (by decide +kernel) (by decide +kernel)
theorem wt_L_about : Cond.static yL_about ∈ lw_good := wm 620 (by decide +kernel) (by decide +kernel)
theorem wt_L_addTeam : Cond.static yL_addTeam ∈ lw_good := wm 793 (by decide +kernel) (by decide +kernel)
theorem wt_L_append : Cond.static yL_append ∈ lw_good := wm 483 (by decide +kernel) (by decide +kernel)
theorem wt_L_ease : Cond.static yL_ease ∈ lw_good := wm 900 (by decide +kernel) (by decide +kernel)
theorem wt_L_giveUp : Cond.static yL_giveUp ∈ lw_good := wm 873 (by decide +kernel) (by decide +kernel)
theorem wt_L_go : Cond.static yL_go ∈ lw_good := wm 822 (by decide +kernel) (by decide +kernel)
theorem wt_L_hint : Cond.static yL_hint ∈ lw_good := wm 851 (by decide +kernel) (by decide +kernel)
theorem wt_L_holds : Cond.static yL_holds ∈ lw_good := wm 733 (by decide +kernel) (by decide +kernel)
theorem wt_L_load : Cond.static yL_load ∈ lw_good := wm 584 (by decide +kernel) (by decide +kernel)
theorem wt_L_move : Cond.static yL_move ∈ lw_good := wm 888 (by decide +kernel) (by decide +kernel)
theorem wt_L_needed : Cond.static yL_needed ∈ lw_good := wm 1002 (by decide +kernel) (by decide +kernel)
theorem wt_L_open : Cond.static yL_open ∈ lw_good := wm 781 (by decide +kernel) (by decide +kernel)
theorem wt_L_orders : Cond.static yL_orders ∈ lw_good := wm 984 (by decide +kernel) (by decide +kernel)
theorem wt_L_place : Cond.static yL_place ∈ lw_good := wm 683 (by decide +kernel) (by decide +kernel)
theorem wt_L_quickest : Cond.static yL_quickest ∈ lw_good := wm 947 (by decide +kernel) (by decide +kernel)
theorem wt_L_restore : Cond.static yL_restore ∈ lw_good := wm 1123 (by decide +kernel) (by decide +kernel)
theorem wt_L_runScript : Cond.static yL_runScript ∈ lw_good := wm 1013 (by decide +kernel) (by decide +kernel)
theorem wt_L_safe : Cond.static yL_safe ∈ lw_good := wm 995 (by decide +kernel) (by decide +kernel)
theorem wt_L_save : Cond.static yL_save ∈ lw_good := wm 1111 (by decide +kernel) (by decide +kernel)
theorem wt_L_shortest : Cond.static yL_shortest ∈ lw_good := wm 927 (by decide +kernel) (by decide +kernel)
theorem wt_L_simulate : Cond.static yL_simulate ∈ lw_good := wm 1080 (by decide +kernel) (by decide +kernel)
theorem wt_L_team : Cond.static yL_team ∈ lw_good := wm 743 (by decide +kernel) (by decide +kernel)
theorem wt_L_trail : Cond.static yL_trail ∈ lw_good := wm 772 (by decide +kernel) (by decide +kernel)
theorem wt_L_undo : Cond.static yL_undo ∈ lw_good := wm 911 (by decide +kernel) (by decide +kernel)
theorem cal_X9_clearText : gCal yX9_clearText cX9_clearText 1 (some .int) 0 := ⟨wm 325 (by decide +kernel) (by decide +kernel), wm 59 (by decide +kernel) (by decide +kernel), by decide +kernel⟩
theorem cal_X9_deadEnds : gCal yX9_deadEnds cX9_deadEnds 1 (some .int) 0 := ⟨wm 438 (by decide +kernel) (by decide +kernel), wm 59 (by decide +kernel) (by decide +kernel), by decide +kernel⟩
theorem cal_X9_easeBy : gCal yX9_easeBy cX9_easeBy 3 (some .int) 0 := ⟨wm 477 (by decide +kernel) (by decide +kernel), wm 59 (by decide +kernel) (by decide +kernel), by decide +kernel⟩
theorem cal_X9_errorPosition : gCal yX9_errorPosition cX9_errorPosition 1 (some .int) 0 := ⟨wm 333 (by decide +kernel) (by decide +kernel), wm 59 (by decide +kernel) (by decide +kernel), by decide +kernel⟩
theorem cal_X10_about : gCal yX10_about cX10_about 6 (some .int) 1 := ⟨wm 1297 (by decide +kernel) (by decide +kernel), wm 69 (by decide +kernel) (by decide +kernel), by decide +kernel⟩
theorem cal_X10_addTeam : gCal yX10_addTeam cX10_addTeam 1 (some .int) 0 := ⟨wm 1368 (by decide +kernel) (by decide +kernel), wm 69 (by decide +kernel) (by decide +kernel), by decide +kernel⟩
theorem cal_X10_append : gCal yX10_append cX10_append 2 (some .int) 1 := ⟨wm 1222 (by decide +kernel) (by decide +kernel), wm 69 (by decide +kernel) (by decide +kernel), by decide +kernel⟩
theorem cal_X10_clearText : gCal yX10_clearText cX10_clearText 2 (some .int) 0 := ⟨wm 1234 (by decide +kernel) (by decide +kernel), wm 69 (by decide +kernel) (by decide +kernel), by decide +kernel⟩
theorem cal_X10_deadEnds : gCal yX10_deadEnds cX10_deadEnds 1 (some .int) 0 := ⟨wm 1473 (by decide +kernel) (by decide +kernel), wm 69 (by decide +kernel) (by decide +kernel), by decide +kernel⟩
theorem cal_X10_ease : gCal yX10_ease cX10_ease 3 (some .int) 1 := ⟨wm 1425 (by decide +kernel) (by decide +kernel), wm 69 (by decide +kernel) (by decide +kernel), by decide +kernel⟩
theorem cal_X10_easeBy : gCal yX10_easeBy cX10_easeBy 2 (some .int) 0 := ⟨wm 1481 (by decide +kernel) (by decide +kernel), wm 69 (by decide +kernel) (by decide +kernel), by decide +kernel⟩
theorem cal_X10_errorPosition : gCal yX10_errorPosition cX10_errorPosition 1 (some .int) 0 := ⟨wm 1238 (by decide +kernel) (by decide +kernel), wm 69 (by decide +kernel) (by decide +kernel), by decide +kernel⟩
theorem cal_X10_giveUp : gCal yX10_giveUp cX10_giveUp 2 (some .int) 1 := ⟨wm 1414 (by decide +kernel) (by decide +kernel), wm 69 (by decide +kernel) (by decide +kernel), by decide +kernel⟩
theorem cal_X10_go : gCal yX10_go cX10_go 3 (some .int) 2 := ⟨wm 1382 (by decide +kernel) (by decide +kernel), wm 69 (by decide +kernel) (by decide +kernel), by decide +kernel⟩
theorem cal_X10_hint : gCal yX10_hint cX10_hint 2 (some .int) 1 := ⟨wm 1395 (by decide +kernel) (by decide +kernel), wm 69 (by decide +kernel) (by decide +kernel), by decide +kernel⟩
theorem cal_X10_holds : gCal yX10_holds cX10_holds 3 (some .boolean) 2 := ⟨wm 1339 (by decide +kernel) (by decide +kernel), wm 69 (by decide +kernel) (by decide +kernel), by decide +kernel⟩
theorem cal_X10_load : gCal yX10_load cX10_load 1 (some .int) 0 := ⟨wm 1290 (by decide +kernel) (by decide +kernel), wm 69 (by decide +kernel) (by decide +kernel), by decide +kernel⟩
theorem cal_X10_move : gCal yX10_move cX10_move 5 (some .int) 3 := ⟨wm 1421 (by decide +kernel) (by decide +kernel), wm 69 (by decide +kernel) (by decide +kernel), by decide +kernel⟩
theorem cal_X10_needed : gCal yX10_needed cX10_needed 5 (some .int) 1 := ⟨wm 1469 (by decide +kernel) (by decide +kernel), wm 69 (by decide +kernel) (by decide +kernel), by decide +kernel⟩
theorem cal_X10_open : gCal yX10_open cX10_open 2 (some .int) 1 := ⟨wm 1358 (by decide +kernel) (by decide +kernel), wm 69 (by decide +kernel) (by decide +kernel), by decide +kernel⟩
theorem cal_X10_orders : gCal yX10_orders cX10_orders 2 (some .int) 1 := ⟨wm 1461 (by decide +kernel) (by decide +kernel), wm 69 (by decide +kernel) (by decide +kernel), by decide +kernel⟩
theorem cal_X10_place : gCal yX10_place cX10_place 5 (some .int) 2 := ⟨wm 1324 (by decide +kernel) (by decide +kernel), wm 69 (by decide +kernel) (by decide +kernel), by decide +kernel⟩
theorem cal_X10_quickest : gCal yX10_quickest cX10_quickest 7 (some .int) 2 := ⟨wm 1445 (by decide +kernel) (by decide +kernel), wm 69 (by decide +kernel) (by decide +kernel), by decide +kernel⟩
theorem cal_X10_restore : gCal yX10_restore cX10_restore 2 (some .int) 1 := ⟨wm 1519 (by decide +kernel) (by decide +kernel), wm 69 (by decide +kernel) (by decide +kernel), by decide +kernel⟩
theorem cal_X10_runScript : gCal yX10_runScript cX10_runScript 6 (some .int) 2 := ⟨wm 1489 (by decide +kernel) (by decide +kernel), wm 69 (by decide +kernel) (by decide +kernel), by decide +kernel⟩
theorem cal_X10_safe : gCal yX10_safe cX10_safe 2 (some .int) 1 := ⟨wm 1465 (by decide +kernel) (by decide +kernel), wm 69 (by decide +kernel) (by decide +kernel), by decide +kernel⟩
theorem cal_X10_save : gCal yX10_save cX10_save 2 (some .int) 1 := ⟨wm 1515 (by decide +kernel) (by decide +kernel), wm 69 (by decide +kernel) (by decide +kernel), by decide +kernel⟩
theorem cal_X10_shortest : gCal yX10_shortest cX10_shortest 5 (some .int) 2 := ⟨wm 1436 (by decide +kernel) (by decide +kernel), wm 69 (by decide +kernel) (by decide +kernel), by decide +kernel⟩
theorem cal_X10_simulate : gCal yX10_simulate cX10_simulate 11 (some .int) 2 := ⟨wm 1503 (by decide +kernel) (by decide +kernel), wm 69 (by decide +kernel) (by decide +kernel), by decide +kernel⟩
theorem cal_X10_team : gCal yX10_team cX10_team 3 (some .int) 2 := ⟨wm 1343 (by decide +kernel) (by decide +kernel), wm 69 (by decide +kernel) (by decide +kernel), by decide +kernel⟩
theorem cal_X10_thrown : gCal yX10_thrown cX10_thrown 1 (some .int) 0 := ⟨wm 1218 (by decide +kernel) (by decide +kernel), wm 69 (by decide +kernel) (by decide +kernel), by decide +kernel⟩
theorem cal_X10_trail : gCal yX10_trail cX10_trail 3 (some .int) 2 := ⟨wm 1354 (by decide +kernel) (by decide +kernel), wm 69 (by decide +kernel) (by decide +kernel), by decide +kernel⟩
theorem cal_X10_undo : gCal yX10_undo cX10_undo 1 (some .int) 0 := ⟨wm 1432 (by decide +kernel) (by decide +kernel), wm 69 (by decide +kernel) (by decide +kernel), by decide +kernel⟩
section GL
variable {p : Program} {l : Launch} {e : Env} {R : Room} {s : State} {m : MethodId} {args : Array Value} {below : List Frame} {meth : Method} {c : Code} {H : Heap} {locs : List Loc} {cells slots : Nat} {Q : State → Prop}
variable {cc : ByteArray} {pc : Nat} {ls : Array Slot} {rest : List Value} {Γ : gE} {g : gG} {Z : Type} {z : Z} {B : Option Z}
theorem gSld' {b L : Nat} {xs : Nat → Int32} (hx : p.tables.exec = Jvm.exec) (hb : c.code = cc) (hXs : va_X b L xs s s.heap) (hbl : b < s.heap.size) (hbA : ¬ gA Γ b) (hS : va_S (gA Γ) s.heap H locs) {i : Int32} (hdg : decode cc pc = .ok (.iaload, 1)) (h : (if inb i L = true then B else none) = some z)
    (kk : B = some z → W p l e R s m args below meth c H locs cells slots Q (F0 m (pc + 1) ls (.int (xs i.toNatClampNeg) :: rest))) : W p l e R s m args below meth c H locs cells slots Q (F0 m pc ls (.int i :: .ref b :: rest)) := by
  by_cases hc : inb i L = true
  · rw [if_pos hc] at h
    exact va_sld hx hb hXs hbl hbA hS (inb_vp hc) hdg (kk h)
  · rw [if_neg hc] at h
    cases h
/-- a call of one of the law's own methods, which catch -/
theorem gCH {nL : Nat} {ret : Option FieldType} {own : String} (C0 : gCx p s m args meth c Γ own cc nL ret) {y2 : MethodName} {b2 : ByteArray} {L2 n2 f2 lo2 mc2 ms2 index : Nat} {ret2 : Option FieldType} {hh : List (Nat × Nat × Nat × Nat)} (hcode : Cond.codeWith y2 b2 L2 ret2 hh ∈ lw_good) (hini : Cond.initialized y2.cls ∈ lw_good) (hd : y2.cls ≠ "java/lang/invoke/MethodHandle" ∧ y2.cls ≠ "java/lang/invoke/VarHandle" ∧ (parseMethodDescriptor y2.desc).map (fun d => d.parameters.length) = some n2) (hw : Cond.methodLink own index y2 ∈ lw_good) (hi : Cond.static y2 ∈ lw_good) (hR : f2 + 1 ≤ R.frames ∧ 8 + (L2 + 11) + lo2 ≤ R.locals) (hcs : cells + mc2 ≤ R.cells ∧ slots + ms2 ≤ R.slots)
    (As : List Value) (hn : As.length = n2) (hrm : (rest.map fun v => v.category).sum ≤ 8) (hP : va_P (gD Γ) gcls (lay Γ g) H) (hS : va_S (gA Γ) s.heap H locs) (hlz : ls.size = nL) (hdg : decode cc pc = .ok (.invokestatic index, 3))
    {X : Option (Int32 × gG)} {F : Int32 × gG → Option Z} (h : X.bind F = some z) (hM : ∀ u, X = some u → gHi l y2 b2 L2 ret2 hh f2 lo2 mc2 ms2 Γ As g u)
    (kk : ∀ (u : Int32 × gG) (H1 : Heap) (locs1 : List Loc), F u = some z → va_P (gD Γ) gcls (lay Γ u.2) H1 → va_S (gA Γ) s.heap H1 locs1 → W p l e R s m args below meth c H1 locs1 (cells + mc2) (slots + ms2) Q (F0 m (pc + 3) ls (.int u.1 :: rest))) {st0 : List Value} (hst : st0 = As.reverse ++ rest) : W p l e R s m args below meth c H locs cells slots Q (F0 m pc ls st0) := by
  obtain ⟨hx, hb, hml, hr, hown, hts, hK, hlk, hX⟩ := C0
  obtain ⟨u, hu, h⟩ := gOb h
  subst hst
  have hc0 : Cond.codeWith y2 b2 L2 ret2 hh ∈ Cond.codeWith y2 b2 L2 ret2 hh :: lw_good := List.mem_cons_self
  have cw : vx_CSW R s args own index y2 b2 L2 ret2 hh (Cond.codeWith y2 b2 L2 ret2 hh :: lw_good) (gRx f2 lo2 mc2 ms2) mc2 ms2 n2 := by
    refine ⟨⟨rfl, rfl, hR.1, hR.2, pay_in hts (lw_goodIn hcode (fun _ h => h)), hc0⟩, hts _ hcode, hts _ hini, ⟨hd.1, hd.2.1⟩, fun sig h => ?_, hts _ hw, hts _ hi⟩
    have h2 := hd.2.2
    rw [h] at h2
    exact (Option.some.inj h2).symm
  refine va_calli (vx_runSW (As := As) (rest := rest) ⟨hx, hb, hml, hown, hts⟩ (hM u hu) cw (gPre hX hK hP hS) rfl hn hlz rfl (lv_room hrm) hdg hcs) hS (fun q _ h => h) (fun q h => h) (fun r u1 t H1 locs1 ht hvm hw hB hz1 hk1 hS1 => ?_)
  rw [← ht] at hS1 ⊢
  have e1 : r = u.1 := hw
  subst e1
  exact kk u t.heap locs1 h hB hS1
end GL
def fs_L_law_164 (L : Nat) (xs : Nat → Int32) (F23 : Int32 → gG → Option Unit) (l4 : Int32) (g : gG) : Option Unit :=
  if inb (l4 + (1 : Int32)) L = true then (f_L_append (xs (l4 + (1 : Int32)).toNatClampNeg) g).bind (fun u1 => gLet u1.1 (fun x2 => if inb (l4 + (1 : Int32)) L = true then (f_X10_append (xs (l4 + (1 : Int32)).toNatClampNeg) u1.2).bind (fun u3 => gLet u3.1 (fun x4 => (f_X10_thrown u3.2).bind (fun u5 => if u5.1 = x2 then (if x2 = (0 : Int32) then (if inb (0 : Int32) 1 = true then if (lg_cmp (u5.2.2 193 (0 : Int32).toNatClampNeg) x4.toInt64) = (0 : Int32) then (gLet (l4 + (4 : Int32)) (fun x10 => F23 x10 u5.2)) else (none) else none) else (gLet (l4 + (4 : Int32)) (fun x8 => F23 x8 u5.2))) else (none)))) else none)) else none
def fs_L_law_220 (L : Nat) (xs : Nat → Int32) (F23 : Int32 → gG → Option Unit) (l4 : Int32) (g : gG) : Option Unit :=
  (f_X9_clearText g).bind (fun u1 => (f_X10_clearText u1.2).bind (fun u2 => if u1.1 = u2.1 then (gLet (l4 + (4 : Int32)) (fun x4 => F23 x4 u2.2)) else (none)))
def fs_L_law_233 (L : Nat) (xs : Nat → Int32) (F23 : Int32 → gG → Option Unit) (l4 : Int32) (g : gG) : Option Unit :=
  (f_X9_errorPosition g).bind (fun u1 => (f_X10_errorPosition u1.2).bind (fun u2 => if u1.1 = u2.1 then (gLet (l4 + (4 : Int32)) (fun x4 => F23 x4 u2.2)) else (none)))
def fs_L_law_246 (L : Nat) (xs : Nat → Int32) (F23 : Int32 → gG → Option Unit) (l4 : Int32) (g : gG) : Option Unit :=
  (f_L_load g).bind (fun u1 => gLet u1.1 (fun x2 => (f_X10_load u1.2).bind (fun u3 => gLet u3.1 (fun x4 => (f_X10_thrown u3.2).bind (fun u5 => if u5.1 = x2 then (if x2 = (0 : Int32) then (if inb (0 : Int32) 1 = true then if (lg_cmp (u5.2.2 193 (0 : Int32).toNatClampNeg) x4.toInt64) = (0 : Int32) then (gLet (l4 + (4 : Int32)) (fun x10 => F23 x10 u5.2)) else (none) else none) else (gLet (l4 + (4 : Int32)) (fun x8 => F23 x8 u5.2))) else (none))))))
def fs_L_law_290 (L : Nat) (xs : Nat → Int32) (F23 : Int32 → gG → Option Unit) (l4 : Int32) (g : gG) : Option Unit :=
  if inb (l4 + (1 : Int32)) L = true then (f_L_about (xs (l4 + (1 : Int32)).toNatClampNeg) g).bind (fun u1 => gLet u1.1 (fun x2 => if inb (l4 + (1 : Int32)) L = true then (f_X10_about (xs (l4 + (1 : Int32)).toNatClampNeg) u1.2).bind (fun u3 => gLet u3.1 (fun x4 => (f_X10_thrown u3.2).bind (fun u5 => if u5.1 = x2 then (if x2 = (0 : Int32) then (if inb (0 : Int32) 1 = true then if (lg_cmp (u5.2.2 193 (0 : Int32).toNatClampNeg) x4.toInt64) = (0 : Int32) then (gLet (l4 + (4 : Int32)) (fun x10 => F23 x10 u5.2)) else (none) else none) else (gLet (l4 + (4 : Int32)) (fun x8 => F23 x8 u5.2))) else (none)))) else none)) else none
def fs_L_law_346 (L : Nat) (xs : Nat → Int32) (F23 : Int32 → gG → Option Unit) (l4 : Int32) (g : gG) : Option Unit :=
  if inb (l4 + (1 : Int32)) L = true then if inb (l4 + (2 : Int32)) L = true then (f_L_place (xs (l4 + (1 : Int32)).toNatClampNeg) (xs (l4 + (2 : Int32)).toNatClampNeg) g).bind (fun u1 => gLet u1.1 (fun x2 => if inb (l4 + (1 : Int32)) L = true then if inb (l4 + (2 : Int32)) L = true then (f_X10_place (xs (l4 + (1 : Int32)).toNatClampNeg) (xs (l4 + (2 : Int32)).toNatClampNeg) u1.2).bind (fun u3 => gLet u3.1 (fun x4 => (f_X10_thrown u3.2).bind (fun u5 => if u5.1 = x2 then (if x2 = (0 : Int32) then (if inb (0 : Int32) 1 = true then if (lg_cmp (u5.2.2 193 (0 : Int32).toNatClampNeg) x4.toInt64) = (0 : Int32) then (gLet (l4 + (4 : Int32)) (fun x10 => F23 x10 u5.2)) else (none) else none) else (gLet (l4 + (4 : Int32)) (fun x8 => F23 x8 u5.2))) else (none)))) else none else none)) else none else none
def fs_L_law_414 (L : Nat) (xs : Nat → Int32) (F23 : Int32 → gG → Option Unit) (l4 : Int32) (g : gG) : Option Unit :=
  if inb (l4 + (1 : Int32)) L = true then if inb (l4 + (2 : Int32)) L = true then (f_L_holds (xs (l4 + (1 : Int32)).toNatClampNeg) (xs (l4 + (2 : Int32)).toNatClampNeg) g).bind (fun u1 => gLet u1.1 (fun x2 => if inb (l4 + (1 : Int32)) L = true then if inb (l4 + (2 : Int32)) L = true then (f_X10_holds (xs (l4 + (1 : Int32)).toNatClampNeg) (xs (l4 + (2 : Int32)).toNatClampNeg) u1.2).bind (fun u3 => gLet u3.1 (fun x4 => (f_X10_thrown u3.2).bind (fun u5 => if u5.1 = x2 then (if x2 = (0 : Int32) then (if inb (0 : Int32) 1 = true then if x4 = (0 : Int32) then (if (lg_cmp (u5.2.2 193 (0 : Int32).toNatClampNeg) (0 : Int64)) = (0 : Int32) then (gLet (l4 + (4 : Int32)) (fun x11 => F23 x11 u5.2)) else (none)) else (if (lg_cmp (u5.2.2 193 (0 : Int32).toNatClampNeg) (1 : Int64)) = (0 : Int32) then (gLet (l4 + (4 : Int32)) (fun x13 => F23 x13 u5.2)) else (none)) else none) else (gLet (l4 + (4 : Int32)) (fun x8 => F23 x8 u5.2))) else (none)))) else none else none)) else none else none
def fs_L_law_489 (L : Nat) (xs : Nat → Int32) (F23 : Int32 → gG → Option Unit) (l4 : Int32) (g : gG) : Option Unit :=
  if inb (l4 + (1 : Int32)) L = true then if inb (l4 + (2 : Int32)) L = true then (f_L_team (xs (l4 + (1 : Int32)).toNatClampNeg) (xs (l4 + (2 : Int32)).toNatClampNeg) g).bind (fun u1 => gLet u1.1 (fun x2 => if inb (l4 + (1 : Int32)) L = true then if inb (l4 + (2 : Int32)) L = true then (f_X10_team (xs (l4 + (1 : Int32)).toNatClampNeg) (xs (l4 + (2 : Int32)).toNatClampNeg) u1.2).bind (fun u3 => gLet u3.1 (fun x4 => (f_X10_thrown u3.2).bind (fun u5 => if u5.1 = x2 then (if x2 = (0 : Int32) then (if inb (0 : Int32) 1 = true then if (lg_cmp (u5.2.2 193 (0 : Int32).toNatClampNeg) x4.toInt64) = (0 : Int32) then (gLet (l4 + (4 : Int32)) (fun x10 => F23 x10 u5.2)) else (none) else none) else (gLet (l4 + (4 : Int32)) (fun x8 => F23 x8 u5.2))) else (none)))) else none else none)) else none else none
def fs_L_law_557 (L : Nat) (xs : Nat → Int32) (F23 : Int32 → gG → Option Unit) (l4 : Int32) (g : gG) : Option Unit :=
  if inb (l4 + (1 : Int32)) L = true then if inb (l4 + (2 : Int32)) L = true then (f_L_trail (xs (l4 + (1 : Int32)).toNatClampNeg) (xs (l4 + (2 : Int32)).toNatClampNeg) g).bind (fun u1 => gLet u1.1 (fun x2 => if inb (l4 + (1 : Int32)) L = true then if inb (l4 + (2 : Int32)) L = true then (f_X10_trail (xs (l4 + (1 : Int32)).toNatClampNeg) (xs (l4 + (2 : Int32)).toNatClampNeg) u1.2).bind (fun u3 => gLet u3.1 (fun x4 => (f_X10_thrown u3.2).bind (fun u5 => if u5.1 = x2 then (if x2 = (0 : Int32) then (if inb (0 : Int32) 1 = true then if (lg_cmp (u5.2.2 193 (0 : Int32).toNatClampNeg) x4.toInt64) = (0 : Int32) then (gLet (l4 + (4 : Int32)) (fun x10 => F23 x10 u5.2)) else (none) else none) else (gLet (l4 + (4 : Int32)) (fun x8 => F23 x8 u5.2))) else (none)))) else none else none)) else none else none
def fs_L_law_625 (L : Nat) (xs : Nat → Int32) (F23 : Int32 → gG → Option Unit) (l4 : Int32) (g : gG) : Option Unit :=
  if inb (l4 + (1 : Int32)) L = true then (f_L_open (xs (l4 + (1 : Int32)).toNatClampNeg) g).bind (fun u1 => gLet u1.1 (fun x2 => if inb (l4 + (1 : Int32)) L = true then (f_X10_open (xs (l4 + (1 : Int32)).toNatClampNeg) u1.2).bind (fun u3 => gLet u3.1 (fun x4 => (f_X10_thrown u3.2).bind (fun u5 => if u5.1 = x2 then (if x2 = (0 : Int32) then (if inb (0 : Int32) 1 = true then if (lg_cmp (u5.2.2 193 (0 : Int32).toNatClampNeg) x4.toInt64) = (0 : Int32) then (gLet (l4 + (4 : Int32)) (fun x10 => F23 x10 u5.2)) else (none) else none) else (gLet (l4 + (4 : Int32)) (fun x8 => F23 x8 u5.2))) else (none)))) else none)) else none
def fs_L_law_681 (L : Nat) (xs : Nat → Int32) (F23 : Int32 → gG → Option Unit) (l4 : Int32) (g : gG) : Option Unit :=
  (f_L_addTeam g).bind (fun u1 => gLet u1.1 (fun x2 => (f_X10_addTeam u1.2).bind (fun u3 => gLet u3.1 (fun x4 => (f_X10_thrown u3.2).bind (fun u5 => if u5.1 = x2 then (if x2 = (0 : Int32) then (if inb (0 : Int32) 1 = true then if (lg_cmp (u5.2.2 193 (0 : Int32).toNatClampNeg) x4.toInt64) = (0 : Int32) then (gLet (l4 + (4 : Int32)) (fun x10 => F23 x10 u5.2)) else (none) else none) else (gLet (l4 + (4 : Int32)) (fun x8 => F23 x8 u5.2))) else (none))))))
def fs_L_law_725 (L : Nat) (xs : Nat → Int32) (F23 : Int32 → gG → Option Unit) (l4 : Int32) (g : gG) : Option Unit :=
  if inb (l4 + (1 : Int32)) L = true then if inb (l4 + (2 : Int32)) L = true then (f_L_go (xs (l4 + (1 : Int32)).toNatClampNeg) (xs (l4 + (2 : Int32)).toNatClampNeg) g).bind (fun u1 => gLet u1.1 (fun x2 => if inb (l4 + (1 : Int32)) L = true then if inb (l4 + (2 : Int32)) L = true then (f_X10_go (xs (l4 + (1 : Int32)).toNatClampNeg) (xs (l4 + (2 : Int32)).toNatClampNeg) u1.2).bind (fun u3 => gLet u3.1 (fun x4 => (f_X10_thrown u3.2).bind (fun u5 => if u5.1 = x2 then (if x2 = (0 : Int32) then (if inb (0 : Int32) 1 = true then if (lg_cmp (u5.2.2 193 (0 : Int32).toNatClampNeg) x4.toInt64) = (0 : Int32) then (gLet (l4 + (4 : Int32)) (fun x10 => F23 x10 u5.2)) else (none) else none) else (gLet (l4 + (4 : Int32)) (fun x8 => F23 x8 u5.2))) else (none)))) else none else none)) else none else none
def fs_L_law_793 (L : Nat) (xs : Nat → Int32) (F23 : Int32 → gG → Option Unit) (l4 : Int32) (g : gG) : Option Unit :=
  if inb (l4 + (1 : Int32)) L = true then (f_L_hint (xs (l4 + (1 : Int32)).toNatClampNeg) g).bind (fun u1 => gLet u1.1 (fun x2 => if inb (l4 + (1 : Int32)) L = true then (f_X10_hint (xs (l4 + (1 : Int32)).toNatClampNeg) u1.2).bind (fun u3 => gLet u3.1 (fun x4 => (f_X10_thrown u3.2).bind (fun u5 => if u5.1 = x2 then (if x2 = (0 : Int32) then (if inb (0 : Int32) 1 = true then if (lg_cmp (u5.2.2 193 (0 : Int32).toNatClampNeg) x4.toInt64) = (0 : Int32) then (gLet (l4 + (4 : Int32)) (fun x10 => F23 x10 u5.2)) else (none) else none) else (gLet (l4 + (4 : Int32)) (fun x8 => F23 x8 u5.2))) else (none)))) else none)) else none
def fs_L_law_849 (L : Nat) (xs : Nat → Int32) (F23 : Int32 → gG → Option Unit) (l4 : Int32) (g : gG) : Option Unit :=
  if inb (l4 + (1 : Int32)) L = true then (f_L_giveUp (xs (l4 + (1 : Int32)).toNatClampNeg) g).bind (fun u1 => gLet u1.1 (fun x2 => if inb (l4 + (1 : Int32)) L = true then (f_X10_giveUp (xs (l4 + (1 : Int32)).toNatClampNeg) u1.2).bind (fun u3 => gLet u3.1 (fun x4 => (f_X10_thrown u3.2).bind (fun u5 => if u5.1 = x2 then (if x2 = (0 : Int32) then (if inb (0 : Int32) 1 = true then if (lg_cmp (u5.2.2 193 (0 : Int32).toNatClampNeg) x4.toInt64) = (0 : Int32) then (gLet (l4 + (4 : Int32)) (fun x10 => F23 x10 u5.2)) else (none) else none) else (gLet (l4 + (4 : Int32)) (fun x8 => F23 x8 u5.2))) else (none)))) else none)) else none
def fs_L_law_905 (L : Nat) (xs : Nat → Int32) (F23 : Int32 → gG → Option Unit) (l4 : Int32) (g : gG) : Option Unit :=
  if inb (l4 + (1 : Int32)) L = true then if inb (l4 + (2 : Int32)) L = true then if inb (l4 + (3 : Int32)) L = true then (f_L_move (xs (l4 + (1 : Int32)).toNatClampNeg) (xs (l4 + (2 : Int32)).toNatClampNeg) (xs (l4 + (3 : Int32)).toNatClampNeg) g).bind (fun u1 => gLet u1.1 (fun x2 => if inb (l4 + (1 : Int32)) L = true then if inb (l4 + (2 : Int32)) L = true then if inb (l4 + (3 : Int32)) L = true then (f_X10_move (xs (l4 + (1 : Int32)).toNatClampNeg) (xs (l4 + (2 : Int32)).toNatClampNeg) (xs (l4 + (3 : Int32)).toNatClampNeg) u1.2).bind (fun u3 => gLet u3.1 (fun x4 => (f_X10_thrown u3.2).bind (fun u5 => if u5.1 = x2 then (if x2 = (0 : Int32) then (if inb (0 : Int32) 1 = true then if (lg_cmp (u5.2.2 193 (0 : Int32).toNatClampNeg) x4.toInt64) = (0 : Int32) then (gLet (l4 + (4 : Int32)) (fun x10 => F23 x10 u5.2)) else (none) else none) else (gLet (l4 + (4 : Int32)) (fun x8 => F23 x8 u5.2))) else (none)))) else none else none else none)) else none else none else none
def fs_L_law_985 (L : Nat) (xs : Nat → Int32) (F23 : Int32 → gG → Option Unit) (l4 : Int32) (g : gG) : Option Unit :=
  if inb (l4 + (1 : Int32)) L = true then (f_L_ease (xs (l4 + (1 : Int32)).toNatClampNeg) g).bind (fun u1 => gLet u1.1 (fun x2 => if inb (l4 + (1 : Int32)) L = true then (f_X10_ease (xs (l4 + (1 : Int32)).toNatClampNeg) u1.2).bind (fun u3 => gLet u3.1 (fun x4 => (f_X10_thrown u3.2).bind (fun u5 => if u5.1 = x2 then (if x2 = (0 : Int32) then (if inb (0 : Int32) 1 = true then if (lg_cmp (u5.2.2 193 (0 : Int32).toNatClampNeg) x4.toInt64) = (0 : Int32) then (gLet (l4 + (4 : Int32)) (fun x10 => F23 x10 u5.2)) else (none) else none) else (gLet (l4 + (4 : Int32)) (fun x8 => F23 x8 u5.2))) else (none)))) else none)) else none
def fs_L_law_1041 (L : Nat) (xs : Nat → Int32) (F23 : Int32 → gG → Option Unit) (l4 : Int32) (g : gG) : Option Unit :=
  (f_L_undo g).bind (fun u1 => gLet u1.1 (fun x2 => (f_X10_undo u1.2).bind (fun u3 => gLet u3.1 (fun x4 => (f_X10_thrown u3.2).bind (fun u5 => if u5.1 = x2 then (if x2 = (0 : Int32) then (if inb (0 : Int32) 1 = true then if (lg_cmp (u5.2.2 193 (0 : Int32).toNatClampNeg) x4.toInt64) = (0 : Int32) then (gLet (l4 + (4 : Int32)) (fun x10 => F23 x10 u5.2)) else (none) else none) else (gLet (l4 + (4 : Int32)) (fun x8 => F23 x8 u5.2))) else (none))))))
def fs_L_law_1085 (L : Nat) (xs : Nat → Int32) (F23 : Int32 → gG → Option Unit) (l4 : Int32) (g : gG) : Option Unit :=
  if inb (l4 + (1 : Int32)) L = true then if inb (l4 + (2 : Int32)) L = true then (f_L_shortest (xs (l4 + (1 : Int32)).toNatClampNeg) (xs (l4 + (2 : Int32)).toNatClampNeg) g).bind (fun u1 => gLet u1.1 (fun x2 => if inb (l4 + (1 : Int32)) L = true then if inb (l4 + (2 : Int32)) L = true then (f_X10_shortest (xs (l4 + (1 : Int32)).toNatClampNeg) (xs (l4 + (2 : Int32)).toNatClampNeg) u1.2).bind (fun u3 => gLet u3.1 (fun x4 => (f_X10_thrown u3.2).bind (fun u5 => if u5.1 = x2 then (if x2 = (0 : Int32) then (if inb (0 : Int32) 1 = true then if (lg_cmp (u5.2.2 193 (0 : Int32).toNatClampNeg) x4.toInt64) = (0 : Int32) then (gLet (l4 + (4 : Int32)) (fun x10 => F23 x10 u5.2)) else (none) else none) else (gLet (l4 + (4 : Int32)) (fun x8 => F23 x8 u5.2))) else (none)))) else none else none)) else none else none
def fs_L_law_1153 (L : Nat) (xs : Nat → Int32) (F23 : Int32 → gG → Option Unit) (l4 : Int32) (g : gG) : Option Unit :=
  if inb (l4 + (1 : Int32)) L = true then if inb (l4 + (2 : Int32)) L = true then (f_L_quickest (xs (l4 + (1 : Int32)).toNatClampNeg) (xs (l4 + (2 : Int32)).toNatClampNeg) g).bind (fun u1 => gLet u1.1 (fun x2 => if inb (l4 + (1 : Int32)) L = true then if inb (l4 + (2 : Int32)) L = true then (f_X10_quickest (xs (l4 + (1 : Int32)).toNatClampNeg) (xs (l4 + (2 : Int32)).toNatClampNeg) u1.2).bind (fun u3 => gLet u3.1 (fun x4 => (f_X10_thrown u3.2).bind (fun u5 => if u5.1 = x2 then (if x2 = (0 : Int32) then (if inb (0 : Int32) 1 = true then if (lg_cmp (u5.2.2 193 (0 : Int32).toNatClampNeg) x4.toInt64) = (0 : Int32) then (gLet (l4 + (4 : Int32)) (fun x10 => F23 x10 u5.2)) else (none) else none) else (gLet (l4 + (4 : Int32)) (fun x8 => F23 x8 u5.2))) else (none)))) else none else none)) else none else none
def fs_L_law_1221 (L : Nat) (xs : Nat → Int32) (F23 : Int32 → gG → Option Unit) (l4 : Int32) (g : gG) : Option Unit :=
  if inb (l4 + (1 : Int32)) L = true then (f_L_orders (xs (l4 + (1 : Int32)).toNatClampNeg) g).bind (fun u1 => gLet u1.1 (fun x2 => if inb (l4 + (1 : Int32)) L = true then (f_X10_orders (xs (l4 + (1 : Int32)).toNatClampNeg) u1.2).bind (fun u3 => gLet u3.1 (fun x4 => (f_X10_thrown u3.2).bind (fun u5 => if u5.1 = x2 then (if x2 = (0 : Int32) then (if inb (0 : Int32) 1 = true then if (lg_cmp (u5.2.2 193 (0 : Int32).toNatClampNeg) x4.toInt64) = (0 : Int32) then (gLet (l4 + (4 : Int32)) (fun x10 => F23 x10 u5.2)) else (none) else none) else (gLet (l4 + (4 : Int32)) (fun x8 => F23 x8 u5.2))) else (none)))) else none)) else none
def fs_L_law_1277 (L : Nat) (xs : Nat → Int32) (F23 : Int32 → gG → Option Unit) (l4 : Int32) (g : gG) : Option Unit :=
  if inb (l4 + (1 : Int32)) L = true then (f_L_safe (xs (l4 + (1 : Int32)).toNatClampNeg) g).bind (fun u1 => gLet u1.1 (fun x2 => if inb (l4 + (1 : Int32)) L = true then (f_X10_safe (xs (l4 + (1 : Int32)).toNatClampNeg) u1.2).bind (fun u3 => gLet u3.1 (fun x4 => (f_X10_thrown u3.2).bind (fun u5 => if u5.1 = x2 then (if x2 = (0 : Int32) then (if inb (0 : Int32) 1 = true then if (lg_cmp (u5.2.2 193 (0 : Int32).toNatClampNeg) x4.toInt64) = (0 : Int32) then (gLet (l4 + (4 : Int32)) (fun x10 => F23 x10 u5.2)) else (none) else none) else (gLet (l4 + (4 : Int32)) (fun x8 => F23 x8 u5.2))) else (none)))) else none)) else none
def fs_L_law_1333 (L : Nat) (xs : Nat → Int32) (F23 : Int32 → gG → Option Unit) (l4 : Int32) (g : gG) : Option Unit :=
  if inb (l4 + (1 : Int32)) L = true then (f_L_needed (xs (l4 + (1 : Int32)).toNatClampNeg) g).bind (fun u1 => gLet u1.1 (fun x2 => if inb (l4 + (1 : Int32)) L = true then (f_X10_needed (xs (l4 + (1 : Int32)).toNatClampNeg) u1.2).bind (fun u3 => gLet u3.1 (fun x4 => (f_X10_thrown u3.2).bind (fun u5 => if u5.1 = x2 then (if x2 = (0 : Int32) then (if inb (0 : Int32) 1 = true then if (lg_cmp (u5.2.2 193 (0 : Int32).toNatClampNeg) x4.toInt64) = (0 : Int32) then (gLet (l4 + (4 : Int32)) (fun x10 => F23 x10 u5.2)) else (none) else none) else (gLet (l4 + (4 : Int32)) (fun x8 => F23 x8 u5.2))) else (none)))) else none)) else none
def fs_L_law_1389 (L : Nat) (xs : Nat → Int32) (F23 : Int32 → gG → Option Unit) (l4 : Int32) (g : gG) : Option Unit :=
  (f_X9_deadEnds g).bind (fun u1 => (f_X10_deadEnds u1.2).bind (fun u2 => if u1.1 = u2.1 then (gLet (l4 + (4 : Int32)) (fun x4 => F23 x4 u2.2)) else (none)))
def fs_L_law_1402 (L : Nat) (xs : Nat → Int32) (F23 : Int32 → gG → Option Unit) (l4 : Int32) (g : gG) : Option Unit :=
  (f_X9_easeBy g).bind (fun u1 => (f_X10_easeBy u1.2).bind (fun u2 => if u1.1 = u2.1 then (gLet (l4 + (4 : Int32)) (fun x4 => F23 x4 u2.2)) else (none)))
def fs_L_law_1415 (L : Nat) (xs : Nat → Int32) (F23 : Int32 → gG → Option Unit) (l4 : Int32) (g : gG) : Option Unit :=
  if inb (l4 + (1 : Int32)) L = true then if inb (l4 + (2 : Int32)) L = true then if inb (l4 + (3 : Int32)) L = true then (f_L_runScript (xs (l4 + (1 : Int32)).toNatClampNeg) (((xs (l4 + (2 : Int32)).toNatClampNeg).toInt64 <<< ((32 : Int32).toInt64 &&& 63)) ||| ((xs (l4 + (3 : Int32)).toNatClampNeg).toInt64 &&& (4294967295 : Int64))) g).bind (fun u1 => gLet u1.1 (fun x2 => if inb (l4 + (1 : Int32)) L = true then if inb (l4 + (2 : Int32)) L = true then if inb (l4 + (3 : Int32)) L = true then (f_X10_runScript (xs (l4 + (1 : Int32)).toNatClampNeg) (((xs (l4 + (2 : Int32)).toNatClampNeg).toInt64 <<< ((32 : Int32).toInt64 &&& 63)) ||| ((xs (l4 + (3 : Int32)).toNatClampNeg).toInt64 &&& (4294967295 : Int64))) u1.2).bind (fun u3 => gLet u3.1 (fun x4 => (f_X10_thrown u3.2).bind (fun u5 => if u5.1 = x2 then (if x2 = (0 : Int32) then (if inb (0 : Int32) 1 = true then if (lg_cmp (u5.2.2 193 (0 : Int32).toNatClampNeg) x4.toInt64) = (0 : Int32) then (gLet (l4 + (4 : Int32)) (fun x10 => F23 x10 u5.2)) else (none) else none) else (gLet (l4 + (4 : Int32)) (fun x8 => F23 x8 u5.2))) else (none)))) else none else none else none)) else none else none else none
def fs_L_law_1515 (L : Nat) (xs : Nat → Int32) (F23 : Int32 → gG → Option Unit) (l4 : Int32) (g : gG) : Option Unit :=
  if inb (l4 + (1 : Int32)) L = true then if inb (l4 + (2 : Int32)) L = true then if inb (l4 + (3 : Int32)) L = true then (f_L_simulate (((xs (l4 + (1 : Int32)).toNatClampNeg).toInt64 <<< ((32 : Int32).toInt64 &&& 63)) ||| ((xs (l4 + (2 : Int32)).toNatClampNeg).toInt64 &&& (4294967295 : Int64))) (xs (l4 + (3 : Int32)).toNatClampNeg) g).bind (fun u1 => gLet u1.1 (fun x2 => if inb (l4 + (1 : Int32)) L = true then if inb (l4 + (2 : Int32)) L = true then if inb (l4 + (3 : Int32)) L = true then (f_X10_simulate (((xs (l4 + (1 : Int32)).toNatClampNeg).toInt64 <<< ((32 : Int32).toInt64 &&& 63)) ||| ((xs (l4 + (2 : Int32)).toNatClampNeg).toInt64 &&& (4294967295 : Int64))) (xs (l4 + (3 : Int32)).toNatClampNeg) u1.2).bind (fun u3 => gLet u3.1 (fun x4 => (f_X10_thrown u3.2).bind (fun u5 => if u5.1 = x2 then (if x2 = (0 : Int32) then (if inb (0 : Int32) 1 = true then if (lg_cmp (u5.2.2 193 (0 : Int32).toNatClampNeg) x4.toInt64) = (0 : Int32) then (gLet (l4 + (4 : Int32)) (fun x10 => F23 x10 u5.2)) else (none) else none) else (gLet (l4 + (4 : Int32)) (fun x8 => F23 x8 u5.2))) else (none)))) else none else none else none)) else none else none else none
def fs_L_law_1615 (L : Nat) (xs : Nat → Int32) (F23 : Int32 → gG → Option Unit) (l4 : Int32) (g : gG) : Option Unit :=
  if inb (l4 + (1 : Int32)) L = true then (f_L_save (xs (l4 + (1 : Int32)).toNatClampNeg) g).bind (fun u1 => gLet u1.1 (fun x2 => if inb (l4 + (1 : Int32)) L = true then (f_X10_save (xs (l4 + (1 : Int32)).toNatClampNeg) u1.2).bind (fun u3 => gLet u3.1 (fun x4 => (f_X10_thrown u3.2).bind (fun u5 => if u5.1 = x2 then (if x2 = (0 : Int32) then (if inb (0 : Int32) 1 = true then if (lg_cmp (u5.2.2 193 (0 : Int32).toNatClampNeg) x4.toInt64) = (0 : Int32) then (gLet (l4 + (4 : Int32)) (fun x10 => F23 x10 u5.2)) else (none) else none) else (gLet (l4 + (4 : Int32)) (fun x8 => F23 x8 u5.2))) else (none)))) else none)) else none
def fs_L_law_1671 (L : Nat) (xs : Nat → Int32) (F23 : Int32 → gG → Option Unit) (l4 : Int32) (g : gG) : Option Unit :=
  if inb (l4 + (1 : Int32)) L = true then (f_L_restore (xs (l4 + (1 : Int32)).toNatClampNeg) g).bind (fun u1 => gLet u1.1 (fun x2 => if inb (l4 + (1 : Int32)) L = true then (f_X10_restore (xs (l4 + (1 : Int32)).toNatClampNeg) u1.2).bind (fun u3 => gLet u3.1 (fun x4 => (f_X10_thrown u3.2).bind (fun u5 => if u5.1 = x2 then (if x2 = (0 : Int32) then (if inb (0 : Int32) 1 = true then if (lg_cmp (u5.2.2 193 (0 : Int32).toNatClampNeg) x4.toInt64) = (0 : Int32) then (gLet (l4 + (4 : Int32)) (fun x10 => F23 x10 u5.2)) else (none) else none) else (gLet (l4 + (4 : Int32)) (fun x8 => F23 x8 u5.2))) else (none)))) else none)) else none
def fs_L_law_23 (L : Nat) (xs : Nat → Int32) (F23 : Int32 → gG → Option Unit) (l4 : Int32) (g : gG) : Option Unit :=
  if ((Int32.ofNat L) - (4 : Int32)) < l4 then (some ()) else (if inb l4 L = true then if ((xs l4.toNatClampNeg) &&& (31 : Int32)) = (0 : Int32) then (fs_L_law_164 L xs F23 l4 g) else (if ((xs l4.toNatClampNeg) &&& (31 : Int32)) = (1 : Int32) then (fs_L_law_220 L xs F23 l4 g) else (if ((xs l4.toNatClampNeg) &&& (31 : Int32)) = (2 : Int32) then (fs_L_law_233 L xs F23 l4 g) else (if ((xs l4.toNatClampNeg) &&& (31 : Int32)) = (3 : Int32) then (fs_L_law_246 L xs F23 l4 g) else (if ((xs l4.toNatClampNeg) &&& (31 : Int32)) = (4 : Int32) then (fs_L_law_290 L xs F23 l4 g) else (if ((xs l4.toNatClampNeg) &&& (31 : Int32)) = (5 : Int32) then (fs_L_law_346 L xs F23 l4 g) else (if ((xs l4.toNatClampNeg) &&& (31 : Int32)) = (6 : Int32) then (fs_L_law_414 L xs F23 l4 g) else (if ((xs l4.toNatClampNeg) &&& (31 : Int32)) = (7 : Int32) then (fs_L_law_489 L xs F23 l4 g) else (if ((xs l4.toNatClampNeg) &&& (31 : Int32)) = (8 : Int32) then (fs_L_law_557 L xs F23 l4 g) else (if ((xs l4.toNatClampNeg) &&& (31 : Int32)) = (9 : Int32) then (fs_L_law_625 L xs F23 l4 g) else (if ((xs l4.toNatClampNeg) &&& (31 : Int32)) = (10 : Int32) then (fs_L_law_681 L xs F23 l4 g) else (if ((xs l4.toNatClampNeg) &&& (31 : Int32)) = (11 : Int32) then (fs_L_law_725 L xs F23 l4 g) else (if ((xs l4.toNatClampNeg) &&& (31 : Int32)) = (12 : Int32) then (fs_L_law_793 L xs F23 l4 g) else (if ((xs l4.toNatClampNeg) &&& (31 : Int32)) = (13 : Int32) then (fs_L_law_849 L xs F23 l4 g) else (if ((xs l4.toNatClampNeg) &&& (31 : Int32)) = (14 : Int32) then (fs_L_law_905 L xs F23 l4 g) else (if ((xs l4.toNatClampNeg) &&& (31 : Int32)) = (15 : Int32) then (fs_L_law_985 L xs F23 l4 g) else (if ((xs l4.toNatClampNeg) &&& (31 : Int32)) = (16 : Int32) then (fs_L_law_1041 L xs F23 l4 g) else (if ((xs l4.toNatClampNeg) &&& (31 : Int32)) = (17 : Int32) then (fs_L_law_1085 L xs F23 l4 g) else (if ((xs l4.toNatClampNeg) &&& (31 : Int32)) = (18 : Int32) then (fs_L_law_1153 L xs F23 l4 g) else (if ((xs l4.toNatClampNeg) &&& (31 : Int32)) = (19 : Int32) then (fs_L_law_1221 L xs F23 l4 g) else (if ((xs l4.toNatClampNeg) &&& (31 : Int32)) = (20 : Int32) then (fs_L_law_1277 L xs F23 l4 g) else (if ((xs l4.toNatClampNeg) &&& (31 : Int32)) = (21 : Int32) then (fs_L_law_1333 L xs F23 l4 g) else (if ((xs l4.toNatClampNeg) &&& (31 : Int32)) = (22 : Int32) then (fs_L_law_1389 L xs F23 l4 g) else (if ((xs l4.toNatClampNeg) &&& (31 : Int32)) = (23 : Int32) then (fs_L_law_1402 L xs F23 l4 g) else (if ((xs l4.toNatClampNeg) &&& (31 : Int32)) = (24 : Int32) then (fs_L_law_1415 L xs F23 l4 g) else (if ((xs l4.toNatClampNeg) &&& (31 : Int32)) = (25 : Int32) then (fs_L_law_1515 L xs F23 l4 g) else (if ((xs l4.toNatClampNeg) &&& (31 : Int32)) = (26 : Int32) then (fs_L_law_1615 L xs F23 l4 g) else (if ((xs l4.toNatClampNeg) &&& (31 : Int32)) = (27 : Int32) then (fs_L_law_1671 L xs F23 l4 g) else (gLet (l4 + (4 : Int32)) (fun x30 => F23 x30 g))))))))))))))))))))))))))))) else none)
def fb_L_law_23 (L : Nat) (xs : Nat → Int32) : Nat → Int32 → gG → Option Unit
  | 0 => fun _ _ => none
  | n + 1 => fs_L_law_23 L xs (fb_L_law_23 L xs n)
