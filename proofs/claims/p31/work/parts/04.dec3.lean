theorem dL_draw_0 : decode cL_draw 0 = .ok (.iload_n 1, 1) := by decide +kernel
theorem dL_draw_1 : decode cL_draw 1 = .ok (.aload_n 0, 1) := by decide +kernel
theorem dL_draw_2 : decode cL_draw 2 = .ok (.arraylength, 1) := by decide +kernel
theorem dL_draw_3 : decode cL_draw 3 = .ok (.if_icmp .ge 9, 3) := by decide +kernel
theorem dL_draw_6 : decode cL_draw 6 = .ok (.aload_n 0, 1) := by decide +kernel
theorem dL_draw_7 : decode cL_draw 7 = .ok (.iload_n 1, 1) := by decide +kernel
theorem dL_draw_8 : decode cL_draw 8 = .ok (.iaload, 1) := by decide +kernel
theorem dL_draw_9 : decode cL_draw 9 = .ok (.goto 11, 3) := by decide +kernel
theorem dL_draw_12 : decode cL_draw 12 = .ok (.ldc 7, 2) := by decide +kernel
theorem dL_draw_14 : decode cL_draw 14 = .ok (.iload_n 1, 1) := by decide +kernel
theorem dL_draw_15 : decode cL_draw 15 = .ok (.imul, 1) := by decide +kernel
theorem dL_draw_16 : decode cL_draw 16 = .ok (.sipush 10399, 3) := by decide +kernel
theorem dL_draw_19 : decode cL_draw 19 = .ok (.iadd, 1) := by decide +kernel
theorem dL_draw_20 : decode cL_draw 20 = .ok (.ldc 8, 2) := by decide +kernel
theorem dL_draw_22 : decode cL_draw 22 = .ok (.iand, 1) := by decide +kernel
theorem dL_draw_23 : decode cL_draw 23 = .ok (.ireturn, 1) := by decide +kernel
theorem dL_in_0 : decode cL_in 0 = .ok (.lload_n 0, 1) := by decide +kernel
theorem dL_in_1 : decode cL_in 1 = .ok (.lload_n 2, 1) := by decide +kernel
theorem dL_in_2 : decode cL_in 2 = .ok (.lcmp, 1) := by decide +kernel
theorem dL_in_3 : decode cL_in 3 = .ok (.ifCond .lt 14, 3) := by decide +kernel
theorem dL_in_6 : decode cL_in 6 = .ok (.lload_n 0, 1) := by decide +kernel
theorem dL_in_7 : decode cL_in 7 = .ok (.lload 4, 2) := by decide +kernel
theorem dL_in_9 : decode cL_in 9 = .ok (.lcmp, 1) := by decide +kernel
theorem dL_in_10 : decode cL_in 10 = .ok (.ifCond .gt 7, 3) := by decide +kernel
theorem dL_in_13 : decode cL_in 13 = .ok (.iconst 1, 1) := by decide +kernel
theorem dL_in_14 : decode cL_in 14 = .ok (.goto 4, 3) := by decide +kernel
theorem dL_in_17 : decode cL_in 17 = .ok (.iconst 0, 1) := by decide +kernel
theorem dL_in_18 : decode cL_in 18 = .ok (.ireturn, 1) := by decide +kernel
theorem dL_append_0 : decode cL_append 0 = .ok (.aload_n 0, 1) := by decide +kernel
theorem dL_append_1 : decode cL_append 1 = .ok (.iload_n 1, 1) := by decide +kernel
theorem dL_append_2 : decode cL_append 2 = .ok (.invokevirtual 9, 3) := by decide +kernel
theorem dL_append_5 : decode cL_append 5 = .ok (.i2l, 1) := by decide +kernel
theorem dL_append_6 : decode cL_append 6 = .ok (.lreturn, 1) := by decide +kernel
theorem dL_append_7 : decode cL_append 7 = .ok (.astore_n 2, 1) := by decide +kernel
theorem dL_append_8 : decode cL_append 8 = .ok (.ldc2_w 17, 3) := by decide +kernel
theorem dL_append_11 : decode cL_append 11 = .ok (.lreturn, 1) := by decide +kernel
theorem dL_append_12 : decode cL_append 12 = .ok (.astore_n 2, 1) := by decide +kernel
theorem dL_append_13 : decode cL_append 13 = .ok (.ldc2_w 21, 3) := by decide +kernel
theorem dL_append_16 : decode cL_append 16 = .ok (.lreturn, 1) := by decide +kernel
theorem dL_load_0 : decode cL_load 0 = .ok (.aload_n 0, 1) := by decide +kernel
theorem dL_load_1 : decode cL_load 1 = .ok (.invokevirtual 23, 3) := by decide +kernel
theorem dL_load_4 : decode cL_load 4 = .ok (.i2l, 1) := by decide +kernel
theorem dL_load_5 : decode cL_load 5 = .ok (.lreturn, 1) := by decide +kernel
theorem dL_load_6 : decode cL_load 6 = .ok (.astore_n 1, 1) := by decide +kernel
theorem dL_load_7 : decode cL_load 7 = .ok (.ldc2_w 21, 3) := by decide +kernel
theorem dL_load_10 : decode cL_load 10 = .ok (.lreturn, 1) := by decide +kernel
theorem dL_about_0 : decode cL_about 0 = .ok (.aload_n 0, 1) := by decide +kernel
theorem dL_about_1 : decode cL_about 1 = .ok (.iload_n 1, 1) := by decide +kernel
theorem dL_about_2 : decode cL_about 2 = .ok (.invokevirtual 27, 3) := by decide +kernel
theorem dL_about_5 : decode cL_about 5 = .ok (.i2l, 1) := by decide +kernel
theorem dL_about_6 : decode cL_about 6 = .ok (.lreturn, 1) := by decide +kernel
theorem dL_about_7 : decode cL_about 7 = .ok (.astore_n 2, 1) := by decide +kernel
theorem dL_about_8 : decode cL_about 8 = .ok (.ldc2_w 17, 3) := by decide +kernel
theorem dL_about_11 : decode cL_about 11 = .ok (.lreturn, 1) := by decide +kernel
theorem dL_place_0 : decode cL_place 0 = .ok (.aload_n 0, 1) := by decide +kernel
theorem dL_place_1 : decode cL_place 1 = .ok (.iload_n 1, 1) := by decide +kernel
theorem dL_place_2 : decode cL_place 2 = .ok (.iload_n 2, 1) := by decide +kernel
theorem dL_place_3 : decode cL_place 3 = .ok (.invokevirtual 30, 3) := by decide +kernel
theorem dL_place_6 : decode cL_place 6 = .ok (.i2l, 1) := by decide +kernel
theorem dL_place_7 : decode cL_place 7 = .ok (.lreturn, 1) := by decide +kernel
theorem dL_place_8 : decode cL_place 8 = .ok (.astore_n 3, 1) := by decide +kernel
theorem dL_place_9 : decode cL_place 9 = .ok (.ldc2_w 36, 3) := by decide +kernel
theorem dL_place_12 : decode cL_place 12 = .ok (.lreturn, 1) := by decide +kernel
theorem dL_place_13 : decode cL_place 13 = .ok (.astore_n 3, 1) := by decide +kernel
theorem dL_place_14 : decode cL_place 14 = .ok (.ldc2_w 17, 3) := by decide +kernel
theorem dL_place_17 : decode cL_place 17 = .ok (.lreturn, 1) := by decide +kernel
theorem dL_holds_0 : decode cL_holds 0 = .ok (.aload_n 0, 1) := by decide +kernel
theorem dL_holds_1 : decode cL_holds 1 = .ok (.iload_n 1, 1) := by decide +kernel
theorem dL_holds_2 : decode cL_holds 2 = .ok (.iload_n 2, 1) := by decide +kernel
theorem dL_holds_3 : decode cL_holds 3 = .ok (.invokevirtual 38, 3) := by decide +kernel
theorem dL_holds_6 : decode cL_holds 6 = .ok (.ifCond .eq 7, 3) := by decide +kernel
theorem dL_holds_9 : decode cL_holds 9 = .ok (.lconst 1, 1) := by decide +kernel
theorem dL_holds_10 : decode cL_holds 10 = .ok (.goto 4, 3) := by decide +kernel
theorem dL_holds_13 : decode cL_holds 13 = .ok (.lconst 0, 1) := by decide +kernel
theorem dL_holds_14 : decode cL_holds 14 = .ok (.lreturn, 1) := by decide +kernel
theorem dL_holds_15 : decode cL_holds 15 = .ok (.astore_n 3, 1) := by decide +kernel
theorem dL_holds_16 : decode cL_holds 16 = .ok (.ldc2_w 36, 3) := by decide +kernel
theorem dL_holds_19 : decode cL_holds 19 = .ok (.lreturn, 1) := by decide +kernel
theorem dL_holds_20 : decode cL_holds 20 = .ok (.astore_n 3, 1) := by decide +kernel
theorem dL_holds_21 : decode cL_holds 21 = .ok (.ldc2_w 17, 3) := by decide +kernel
theorem dL_holds_24 : decode cL_holds 24 = .ok (.lreturn, 1) := by decide +kernel
theorem dL_team_0 : decode cL_team 0 = .ok (.aload_n 0, 1) := by decide +kernel
theorem dL_team_1 : decode cL_team 1 = .ok (.iload_n 1, 1) := by decide +kernel
theorem dL_team_2 : decode cL_team 2 = .ok (.iload_n 2, 1) := by decide +kernel
theorem dL_team_3 : decode cL_team 3 = .ok (.invokevirtual 42, 3) := by decide +kernel
theorem dL_team_6 : decode cL_team 6 = .ok (.i2l, 1) := by decide +kernel
theorem dL_team_7 : decode cL_team 7 = .ok (.lreturn, 1) := by decide +kernel
theorem dL_team_8 : decode cL_team 8 = .ok (.astore_n 3, 1) := by decide +kernel
theorem dL_team_9 : decode cL_team 9 = .ok (.ldc2_w 36, 3) := by decide +kernel
theorem dL_team_12 : decode cL_team 12 = .ok (.lreturn, 1) := by decide +kernel
theorem dL_team_13 : decode cL_team 13 = .ok (.astore_n 3, 1) := by decide +kernel
theorem dL_team_14 : decode cL_team 14 = .ok (.ldc2_w 17, 3) := by decide +kernel
theorem dL_team_17 : decode cL_team 17 = .ok (.lreturn, 1) := by decide +kernel
theorem dL_trail_0 : decode cL_trail 0 = .ok (.aload_n 0, 1) := by decide +kernel
theorem dL_trail_1 : decode cL_trail 1 = .ok (.iload_n 1, 1) := by decide +kernel
theorem dL_trail_2 : decode cL_trail 2 = .ok (.iload_n 2, 1) := by decide +kernel
theorem dL_trail_3 : decode cL_trail 3 = .ok (.invokevirtual 45, 3) := by decide +kernel
theorem dL_trail_6 : decode cL_trail 6 = .ok (.i2l, 1) := by decide +kernel
theorem dL_trail_7 : decode cL_trail 7 = .ok (.lreturn, 1) := by decide +kernel
theorem dL_trail_8 : decode cL_trail 8 = .ok (.astore_n 3, 1) := by decide +kernel
theorem dL_trail_9 : decode cL_trail 9 = .ok (.ldc2_w 36, 3) := by decide +kernel
theorem dL_trail_12 : decode cL_trail 12 = .ok (.lreturn, 1) := by decide +kernel
theorem dL_trail_13 : decode cL_trail 13 = .ok (.astore_n 3, 1) := by decide +kernel
theorem dL_trail_14 : decode cL_trail 14 = .ok (.ldc2_w 17, 3) := by decide +kernel
theorem dL_trail_17 : decode cL_trail 17 = .ok (.lreturn, 1) := by decide +kernel
theorem dL_open_0 : decode cL_open 0 = .ok (.aload_n 0, 1) := by decide +kernel
theorem dL_open_1 : decode cL_open 1 = .ok (.iload_n 1, 1) := by decide +kernel
theorem dL_open_2 : decode cL_open 2 = .ok (.invokevirtual 48, 3) := by decide +kernel
theorem dL_open_5 : decode cL_open 5 = .ok (.i2l, 1) := by decide +kernel
theorem dL_open_6 : decode cL_open 6 = .ok (.lreturn, 1) := by decide +kernel
theorem dL_open_7 : decode cL_open 7 = .ok (.astore_n 2, 1) := by decide +kernel
theorem dL_open_8 : decode cL_open 8 = .ok (.ldc2_w 36, 3) := by decide +kernel
theorem dL_open_11 : decode cL_open 11 = .ok (.lreturn, 1) := by decide +kernel
theorem dL_addTeam_0 : decode cL_addTeam 0 = .ok (.aload_n 0, 1) := by decide +kernel
theorem dL_addTeam_1 : decode cL_addTeam 1 = .ok (.invokevirtual 51, 3) := by decide +kernel
theorem dL_addTeam_4 : decode cL_addTeam 4 = .ok (.i2l, 1) := by decide +kernel
theorem dL_addTeam_5 : decode cL_addTeam 5 = .ok (.lreturn, 1) := by decide +kernel
theorem dL_addTeam_6 : decode cL_addTeam 6 = .ok (.astore_n 1, 1) := by decide +kernel
theorem dL_addTeam_7 : decode cL_addTeam 7 = .ok (.ldc2_w 21, 3) := by decide +kernel
theorem dL_addTeam_10 : decode cL_addTeam 10 = .ok (.lreturn, 1) := by decide +kernel
theorem dL_go_0 : decode cL_go 0 = .ok (.aload_n 0, 1) := by decide +kernel
theorem dL_go_1 : decode cL_go 1 = .ok (.iload_n 1, 1) := by decide +kernel
theorem dL_go_2 : decode cL_go 2 = .ok (.iload_n 2, 1) := by decide +kernel
theorem dL_go_3 : decode cL_go 3 = .ok (.invokevirtual 54, 3) := by decide +kernel
theorem dL_go_6 : decode cL_go 6 = .ok (.i2l, 1) := by decide +kernel
theorem dL_go_7 : decode cL_go 7 = .ok (.lreturn, 1) := by decide +kernel
theorem dL_go_8 : decode cL_go 8 = .ok (.astore_n 3, 1) := by decide +kernel
theorem dL_go_9 : decode cL_go 9 = .ok (.ldc2_w 36, 3) := by decide +kernel
theorem dL_go_12 : decode cL_go 12 = .ok (.lreturn, 1) := by decide +kernel
theorem dL_go_13 : decode cL_go 13 = .ok (.astore_n 3, 1) := by decide +kernel
theorem dL_go_14 : decode cL_go 14 = .ok (.ldc2_w 21, 3) := by decide +kernel
theorem dL_go_17 : decode cL_go 17 = .ok (.lreturn, 1) := by decide +kernel
theorem dL_hint_0 : decode cL_hint 0 = .ok (.aload_n 0, 1) := by decide +kernel
theorem dL_hint_1 : decode cL_hint 1 = .ok (.iload_n 1, 1) := by decide +kernel
theorem dL_hint_2 : decode cL_hint 2 = .ok (.invokevirtual 57, 3) := by decide +kernel
theorem dL_hint_5 : decode cL_hint 5 = .ok (.i2l, 1) := by decide +kernel
theorem dL_hint_6 : decode cL_hint 6 = .ok (.lreturn, 1) := by decide +kernel
theorem dL_hint_7 : decode cL_hint 7 = .ok (.astore_n 2, 1) := by decide +kernel
theorem dL_hint_8 : decode cL_hint 8 = .ok (.ldc2_w 36, 3) := by decide +kernel
theorem dL_hint_11 : decode cL_hint 11 = .ok (.lreturn, 1) := by decide +kernel
theorem dL_hint_12 : decode cL_hint 12 = .ok (.astore_n 2, 1) := by decide +kernel
theorem dL_hint_13 : decode cL_hint 13 = .ok (.ldc2_w 21, 3) := by decide +kernel
theorem dL_hint_16 : decode cL_hint 16 = .ok (.lreturn, 1) := by decide +kernel
theorem dL_giveUp_0 : decode cL_giveUp 0 = .ok (.aload_n 0, 1) := by decide +kernel
theorem dL_giveUp_1 : decode cL_giveUp 1 = .ok (.iload_n 1, 1) := by decide +kernel
theorem dL_giveUp_2 : decode cL_giveUp 2 = .ok (.invokevirtual 60, 3) := by decide +kernel
theorem dL_giveUp_5 : decode cL_giveUp 5 = .ok (.i2l, 1) := by decide +kernel
theorem dL_giveUp_6 : decode cL_giveUp 6 = .ok (.lreturn, 1) := by decide +kernel
theorem dL_giveUp_7 : decode cL_giveUp 7 = .ok (.astore_n 2, 1) := by decide +kernel
theorem dL_giveUp_8 : decode cL_giveUp 8 = .ok (.ldc2_w 36, 3) := by decide +kernel
theorem dL_giveUp_11 : decode cL_giveUp 11 = .ok (.lreturn, 1) := by decide +kernel
theorem dL_move_0 : decode cL_move 0 = .ok (.aload_n 0, 1) := by decide +kernel
theorem dL_move_1 : decode cL_move 1 = .ok (.iload_n 1, 1) := by decide +kernel
theorem dL_move_2 : decode cL_move 2 = .ok (.iload_n 2, 1) := by decide +kernel
theorem dL_move_3 : decode cL_move 3 = .ok (.iload_n 3, 1) := by decide +kernel
theorem dL_move_4 : decode cL_move 4 = .ok (.invokevirtual 63, 3) := by decide +kernel
theorem dL_move_7 : decode cL_move 7 = .ok (.i2l, 1) := by decide +kernel
theorem dL_move_8 : decode cL_move 8 = .ok (.lreturn, 1) := by decide +kernel
theorem dL_move_9 : decode cL_move 9 = .ok (.astore 4, 2) := by decide +kernel
theorem dL_move_11 : decode cL_move 11 = .ok (.ldc2_w 36, 3) := by decide +kernel
theorem dL_move_14 : decode cL_move 14 = .ok (.lreturn, 1) := by decide +kernel
theorem dL_move_15 : decode cL_move 15 = .ok (.astore 4, 2) := by decide +kernel
theorem dL_move_17 : decode cL_move 17 = .ok (.ldc2_w 17, 3) := by decide +kernel
theorem dL_move_20 : decode cL_move 20 = .ok (.lreturn, 1) := by decide +kernel
theorem dL_ease_0 : decode cL_ease 0 = .ok (.aload_n 0, 1) := by decide +kernel
theorem dL_ease_1 : decode cL_ease 1 = .ok (.iload_n 1, 1) := by decide +kernel
theorem dL_ease_2 : decode cL_ease 2 = .ok (.invokevirtual 67, 3) := by decide +kernel
theorem dL_ease_5 : decode cL_ease 5 = .ok (.i2l, 1) := by decide +kernel
theorem dL_ease_6 : decode cL_ease 6 = .ok (.lreturn, 1) := by decide +kernel
theorem dL_ease_7 : decode cL_ease 7 = .ok (.astore_n 2, 1) := by decide +kernel
theorem dL_ease_8 : decode cL_ease 8 = .ok (.ldc2_w 36, 3) := by decide +kernel
theorem dL_ease_11 : decode cL_ease 11 = .ok (.lreturn, 1) := by decide +kernel
theorem dL_undo_0 : decode cL_undo 0 = .ok (.aload_n 0, 1) := by decide +kernel
theorem dL_undo_1 : decode cL_undo 1 = .ok (.invokevirtual 70, 3) := by decide +kernel
theorem dL_undo_4 : decode cL_undo 4 = .ok (.i2l, 1) := by decide +kernel
theorem dL_undo_5 : decode cL_undo 5 = .ok (.lreturn, 1) := by decide +kernel
theorem dL_undo_6 : decode cL_undo 6 = .ok (.astore_n 1, 1) := by decide +kernel
theorem dL_undo_7 : decode cL_undo 7 = .ok (.ldc2_w 21, 3) := by decide +kernel
theorem dL_undo_10 : decode cL_undo 10 = .ok (.lreturn, 1) := by decide +kernel
theorem dL_shortest_0 : decode cL_shortest 0 = .ok (.aload_n 0, 1) := by decide +kernel
theorem dL_shortest_1 : decode cL_shortest 1 = .ok (.iload_n 1, 1) := by decide +kernel
theorem dL_shortest_2 : decode cL_shortest 2 = .ok (.iload_n 2, 1) := by decide +kernel
theorem dL_shortest_3 : decode cL_shortest 3 = .ok (.invokevirtual 73, 3) := by decide +kernel
theorem dL_shortest_6 : decode cL_shortest 6 = .ok (.i2l, 1) := by decide +kernel
theorem dL_shortest_7 : decode cL_shortest 7 = .ok (.lreturn, 1) := by decide +kernel
theorem dL_shortest_8 : decode cL_shortest 8 = .ok (.astore_n 3, 1) := by decide +kernel
theorem dL_shortest_9 : decode cL_shortest 9 = .ok (.ldc2_w 36, 3) := by decide +kernel
theorem dL_shortest_12 : decode cL_shortest 12 = .ok (.lreturn, 1) := by decide +kernel
theorem dL_shortest_13 : decode cL_shortest 13 = .ok (.astore_n 3, 1) := by decide +kernel
theorem dL_shortest_14 : decode cL_shortest 14 = .ok (.ldc2_w 17, 3) := by decide +kernel
theorem dL_shortest_17 : decode cL_shortest 17 = .ok (.lreturn, 1) := by decide +kernel
theorem dL_quickest_0 : decode cL_quickest 0 = .ok (.aload_n 0, 1) := by decide +kernel
theorem dL_quickest_1 : decode cL_quickest 1 = .ok (.iload_n 1, 1) := by decide +kernel
theorem dL_quickest_2 : decode cL_quickest 2 = .ok (.iload_n 2, 1) := by decide +kernel
theorem dL_quickest_3 : decode cL_quickest 3 = .ok (.invokevirtual 76, 3) := by decide +kernel
theorem dL_quickest_6 : decode cL_quickest 6 = .ok (.i2l, 1) := by decide +kernel
theorem dL_quickest_7 : decode cL_quickest 7 = .ok (.lreturn, 1) := by decide +kernel
theorem dL_quickest_8 : decode cL_quickest 8 = .ok (.astore_n 3, 1) := by decide +kernel
theorem dL_quickest_9 : decode cL_quickest 9 = .ok (.ldc2_w 36, 3) := by decide +kernel
theorem dL_quickest_12 : decode cL_quickest 12 = .ok (.lreturn, 1) := by decide +kernel
theorem dL_quickest_13 : decode cL_quickest 13 = .ok (.astore_n 3, 1) := by decide +kernel
theorem dL_quickest_14 : decode cL_quickest 14 = .ok (.ldc2_w 17, 3) := by decide +kernel
theorem dL_quickest_17 : decode cL_quickest 17 = .ok (.lreturn, 1) := by decide +kernel
theorem dL_orders_0 : decode cL_orders 0 = .ok (.aload_n 0, 1) := by decide +kernel
theorem dL_orders_1 : decode cL_orders 1 = .ok (.iload_n 1, 1) := by decide +kernel
theorem dL_orders_2 : decode cL_orders 2 = .ok (.invokevirtual 79, 3) := by decide +kernel
theorem dL_orders_5 : decode cL_orders 5 = .ok (.i2l, 1) := by decide +kernel
theorem dL_orders_6 : decode cL_orders 6 = .ok (.lreturn, 1) := by decide +kernel
theorem dL_orders_7 : decode cL_orders 7 = .ok (.astore_n 2, 1) := by decide +kernel
theorem dL_orders_8 : decode cL_orders 8 = .ok (.ldc2_w 36, 3) := by decide +kernel
theorem dL_orders_11 : decode cL_orders 11 = .ok (.lreturn, 1) := by decide +kernel
theorem dL_safe_0 : decode cL_safe 0 = .ok (.aload_n 0, 1) := by decide +kernel
theorem dL_safe_1 : decode cL_safe 1 = .ok (.iload_n 1, 1) := by decide +kernel
theorem dL_safe_2 : decode cL_safe 2 = .ok (.invokevirtual 82, 3) := by decide +kernel
theorem dL_safe_5 : decode cL_safe 5 = .ok (.i2l, 1) := by decide +kernel
theorem dL_safe_6 : decode cL_safe 6 = .ok (.lreturn, 1) := by decide +kernel
theorem dL_safe_7 : decode cL_safe 7 = .ok (.astore_n 2, 1) := by decide +kernel
theorem dL_safe_8 : decode cL_safe 8 = .ok (.ldc2_w 36, 3) := by decide +kernel
theorem dL_safe_11 : decode cL_safe 11 = .ok (.lreturn, 1) := by decide +kernel
theorem dL_needed_0 : decode cL_needed 0 = .ok (.aload_n 0, 1) := by decide +kernel
theorem dL_needed_1 : decode cL_needed 1 = .ok (.iload_n 1, 1) := by decide +kernel
theorem dL_needed_2 : decode cL_needed 2 = .ok (.invokevirtual 85, 3) := by decide +kernel
theorem dL_needed_5 : decode cL_needed 5 = .ok (.i2l, 1) := by decide +kernel
theorem dL_needed_6 : decode cL_needed 6 = .ok (.lreturn, 1) := by decide +kernel
theorem dL_needed_7 : decode cL_needed 7 = .ok (.astore_n 2, 1) := by decide +kernel
theorem dL_needed_8 : decode cL_needed 8 = .ok (.ldc2_w 36, 3) := by decide +kernel
theorem dL_needed_11 : decode cL_needed 11 = .ok (.lreturn, 1) := by decide +kernel
theorem dL_script_0 : decode cL_script 0 = .ok (.aload_n 0, 1) := by decide +kernel
theorem dL_script_1 : decode cL_script 1 = .ok (.iload_n 1, 1) := by decide +kernel
theorem dL_script_2 : decode cL_script 2 = .ok (.lload_n 2, 1) := by decide +kernel
theorem dL_script_3 : decode cL_script 3 = .ok (.invokevirtual 88, 3) := by decide +kernel
theorem dL_script_6 : decode cL_script 6 = .ok (.i2l, 1) := by decide +kernel
theorem dL_script_7 : decode cL_script 7 = .ok (.lreturn, 1) := by decide +kernel
theorem dL_script_8 : decode cL_script 8 = .ok (.astore 4, 2) := by decide +kernel
theorem dL_script_10 : decode cL_script 10 = .ok (.ldc2_w 17, 3) := by decide +kernel
theorem dL_script_13 : decode cL_script 13 = .ok (.lreturn, 1) := by decide +kernel
theorem dL_simulate_0 : decode cL_simulate 0 = .ok (.aload_n 0, 1) := by decide +kernel
theorem dL_simulate_1 : decode cL_simulate 1 = .ok (.lload_n 1, 1) := by decide +kernel
theorem dL_simulate_2 : decode cL_simulate 2 = .ok (.iload_n 3, 1) := by decide +kernel
theorem dL_simulate_3 : decode cL_simulate 3 = .ok (.invokevirtual 92, 3) := by decide +kernel
theorem dL_simulate_6 : decode cL_simulate 6 = .ok (.i2l, 1) := by decide +kernel
theorem dL_simulate_7 : decode cL_simulate 7 = .ok (.lreturn, 1) := by decide +kernel
theorem dL_simulate_8 : decode cL_simulate 8 = .ok (.astore 4, 2) := by decide +kernel
theorem dL_simulate_10 : decode cL_simulate 10 = .ok (.ldc2_w 17, 3) := by decide +kernel
theorem dL_simulate_13 : decode cL_simulate 13 = .ok (.lreturn, 1) := by decide +kernel
theorem dL_save_0 : decode cL_save 0 = .ok (.aload_n 0, 1) := by decide +kernel
theorem dL_save_1 : decode cL_save 1 = .ok (.iload_n 1, 1) := by decide +kernel
theorem dL_save_2 : decode cL_save 2 = .ok (.invokevirtual 96, 3) := by decide +kernel
theorem dL_save_5 : decode cL_save 5 = .ok (.i2l, 1) := by decide +kernel
theorem dL_save_6 : decode cL_save 6 = .ok (.lreturn, 1) := by decide +kernel
theorem dL_save_7 : decode cL_save 7 = .ok (.astore_n 2, 1) := by decide +kernel
theorem dL_save_8 : decode cL_save 8 = .ok (.ldc2_w 36, 3) := by decide +kernel
theorem dL_save_11 : decode cL_save 11 = .ok (.lreturn, 1) := by decide +kernel
theorem dL_restore_0 : decode cL_restore 0 = .ok (.aload_n 0, 1) := by decide +kernel
theorem dL_restore_1 : decode cL_restore 1 = .ok (.iload_n 1, 1) := by decide +kernel
theorem dL_restore_2 : decode cL_restore 2 = .ok (.invokevirtual 99, 3) := by decide +kernel
theorem dL_restore_5 : decode cL_restore 5 = .ok (.i2l, 1) := by decide +kernel
theorem dL_restore_6 : decode cL_restore 6 = .ok (.lreturn, 1) := by decide +kernel
theorem dL_restore_7 : decode cL_restore 7 = .ok (.astore_n 2, 1) := by decide +kernel
theorem dL_restore_8 : decode cL_restore 8 = .ok (.ldc2_w 36, 3) := by decide +kernel
theorem dL_restore_11 : decode cL_restore 11 = .ok (.lreturn, 1) := by decide +kernel
theorem dL_restore_12 : decode cL_restore 12 = .ok (.astore_n 2, 1) := by decide +kernel
theorem dL_restore_13 : decode cL_restore 13 = .ok (.ldc2_w 21, 3) := by decide +kernel
theorem dL_restore_16 : decode cL_restore 16 = .ok (.lreturn, 1) := by decide +kernel
theorem dL_has_0 : decode cL_has 0 = .ok (.lload_n 0, 1) := by decide +kernel
theorem dL_has_1 : decode cL_has 1 = .ok (.iload_n 2, 1) := by decide +kernel
theorem dL_has_2 : decode cL_has 2 = .ok (.lshr, 1) := by decide +kernel
theorem dL_has_3 : decode cL_has 3 = .ok (.lconst 1, 1) := by decide +kernel
theorem dL_has_4 : decode cL_has 4 = .ok (.land, 1) := by decide +kernel
theorem dL_has_5 : decode cL_has 5 = .ok (.lconst 1, 1) := by decide +kernel
theorem dL_has_6 : decode cL_has 6 = .ok (.lcmp, 1) := by decide +kernel
theorem dL_has_7 : decode cL_has 7 = .ok (.ifCond .ne 7, 3) := by decide +kernel
theorem dL_has_10 : decode cL_has 10 = .ok (.iconst 1, 1) := by decide +kernel
theorem dL_has_11 : decode cL_has 11 = .ok (.goto 4, 3) := by decide +kernel
theorem dL_has_14 : decode cL_has 14 = .ok (.iconst 0, 1) := by decide +kernel
theorem dL_has_15 : decode cL_has 15 = .ok (.ireturn, 1) := by decide +kernel
theorem dL_now_0 : decode cL_now 0 = .ok (.ldc2_w 102, 3) := by decide +kernel
theorem dL_now_3 : decode cL_now 3 = .ok (.lstore_n 1, 1) := by decide +kernel
theorem dL_now_4 : decode cL_now 4 = .ok (.iconst 0, 1) := by decide +kernel
theorem dL_now_5 : decode cL_now 5 = .ok (.istore_n 3, 1) := by decide +kernel
theorem dL_now_6 : decode cL_now 6 = .ok (.iload_n 3, 1) := by decide +kernel
theorem dL_now_7 : decode cL_now 7 = .ok (.bipush 6, 2) := by decide +kernel
theorem dL_now_9 : decode cL_now 9 = .ok (.if_icmp .ge 21, 3) := by decide +kernel
theorem dL_now_12 : decode cL_now 12 = .ok (.ldc2_w 104, 3) := by decide +kernel
theorem dL_now_15 : decode cL_now 15 = .ok (.lload_n 1, 1) := by decide +kernel
theorem dL_now_16 : decode cL_now 16 = .ok (.lmul, 1) := by decide +kernel
theorem dL_now_17 : decode cL_now 17 = .ok (.aload_n 0, 1) := by decide +kernel
theorem dL_now_18 : decode cL_now 18 = .ok (.iload_n 3, 1) := by decide +kernel
theorem dL_now_19 : decode cL_now 19 = .ok (.invokestatic 106, 3) := by decide +kernel
theorem dL_now_22 : decode cL_now 22 = .ok (.ladd, 1) := by decide +kernel
theorem dL_now_23 : decode cL_now 23 = .ok (.lstore_n 1, 1) := by decide +kernel
theorem dL_now_24 : decode cL_now 24 = .ok (.iinc 3 1, 3) := by decide +kernel
theorem dL_now_27 : decode cL_now 27 = .ok (.goto (-21), 3) := by decide +kernel
theorem dL_now_30 : decode cL_now 30 = .ok (.iconst 0, 1) := by decide +kernel
theorem dL_now_31 : decode cL_now 31 = .ok (.istore_n 3, 1) := by decide +kernel
theorem dL_now_32 : decode cL_now 32 = .ok (.iload_n 3, 1) := by decide +kernel
theorem dL_now_33 : decode cL_now 33 = .ok (.i2l, 1) := by decide +kernel
theorem dL_now_34 : decode cL_now 34 = .ok (.aload_n 0, 1) := by decide +kernel
theorem dL_now_35 : decode cL_now 35 = .ok (.iconst 0, 1) := by decide +kernel
theorem dL_now_36 : decode cL_now 36 = .ok (.invokestatic 106, 3) := by decide +kernel
theorem dL_now_39 : decode cL_now 39 = .ok (.lcmp, 1) := by decide +kernel
theorem dL_now_40 : decode cL_now 40 = .ok (.ifCond .ge 38, 3) := by decide +kernel
theorem dL_now_43 : decode cL_now 43 = .ok (.iconst 0, 1) := by decide +kernel
theorem dL_now_44 : decode cL_now 44 = .ok (.istore 4, 2) := by decide +kernel
theorem dL_now_46 : decode cL_now 46 = .ok (.iload 4, 2) := by decide +kernel
theorem dL_now_48 : decode cL_now 48 = .ok (.iconst 4, 1) := by decide +kernel
theorem dL_now_49 : decode cL_now 49 = .ok (.if_icmp .ge 23, 3) := by decide +kernel
theorem dL_now_52 : decode cL_now 52 = .ok (.ldc2_w 104, 3) := by decide +kernel
theorem dL_now_55 : decode cL_now 55 = .ok (.lload_n 1, 1) := by decide +kernel
theorem dL_now_56 : decode cL_now 56 = .ok (.lmul, 1) := by decide +kernel
theorem dL_now_57 : decode cL_now 57 = .ok (.aload_n 0, 1) := by decide +kernel
theorem dL_now_58 : decode cL_now 58 = .ok (.iload_n 3, 1) := by decide +kernel
theorem dL_now_59 : decode cL_now 59 = .ok (.iload 4, 2) := by decide +kernel
theorem dL_now_61 : decode cL_now 61 = .ok (.invokestatic 111, 3) := by decide +kernel
theorem dL_now_64 : decode cL_now 64 = .ok (.ladd, 1) := by decide +kernel
theorem dL_now_65 : decode cL_now 65 = .ok (.lstore_n 1, 1) := by decide +kernel
theorem dL_now_66 : decode cL_now 66 = .ok (.iinc 4 1, 3) := by decide +kernel
theorem dL_now_69 : decode cL_now 69 = .ok (.goto (-23), 3) := by decide +kernel
theorem dL_now_72 : decode cL_now 72 = .ok (.iinc 3 1, 3) := by decide +kernel
theorem dL_now_75 : decode cL_now 75 = .ok (.goto (-43), 3) := by decide +kernel
theorem dL_now_78 : decode cL_now 78 = .ok (.iconst 0, 1) := by decide +kernel
theorem dL_now_79 : decode cL_now 79 = .ok (.istore_n 3, 1) := by decide +kernel
theorem dL_now_80 : decode cL_now 80 = .ok (.iload_n 3, 1) := by decide +kernel
theorem dL_now_81 : decode cL_now 81 = .ok (.i2l, 1) := by decide +kernel
theorem dL_now_82 : decode cL_now 82 = .ok (.aload_n 0, 1) := by decide +kernel
theorem dL_now_83 : decode cL_now 83 = .ok (.iconst 1, 1) := by decide +kernel
theorem dL_now_84 : decode cL_now 84 = .ok (.invokestatic 106, 3) := by decide +kernel
theorem dL_now_87 : decode cL_now 87 = .ok (.lcmp, 1) := by decide +kernel
theorem dL_now_88 : decode cL_now 88 = .ok (.ifCond .ge 61, 3) := by decide +kernel
theorem dL_now_91 : decode cL_now 91 = .ok (.iconst 0, 1) := by decide +kernel
theorem dL_now_92 : decode cL_now 92 = .ok (.istore 4, 2) := by decide +kernel
theorem dL_now_94 : decode cL_now 94 = .ok (.iload 4, 2) := by decide +kernel
theorem dL_now_96 : decode cL_now 96 = .ok (.bipush 6, 2) := by decide +kernel
theorem dL_now_98 : decode cL_now 98 = .ok (.if_icmp .ge 23, 3) := by decide +kernel
theorem dL_now_101 : decode cL_now 101 = .ok (.ldc2_w 104, 3) := by decide +kernel
theorem dL_now_104 : decode cL_now 104 = .ok (.lload_n 1, 1) := by decide +kernel
theorem dL_now_105 : decode cL_now 105 = .ok (.lmul, 1) := by decide +kernel
theorem dL_now_106 : decode cL_now 106 = .ok (.aload_n 0, 1) := by decide +kernel
theorem dL_now_107 : decode cL_now 107 = .ok (.iload_n 3, 1) := by decide +kernel
theorem dL_now_108 : decode cL_now 108 = .ok (.iload 4, 2) := by decide +kernel
theorem dL_now_110 : decode cL_now 110 = .ok (.invokestatic 114, 3) := by decide +kernel
theorem dL_now_113 : decode cL_now 113 = .ok (.ladd, 1) := by decide +kernel
theorem dL_now_114 : decode cL_now 114 = .ok (.lstore_n 1, 1) := by decide +kernel
theorem dL_now_115 : decode cL_now 115 = .ok (.iinc 4 1, 3) := by decide +kernel
theorem dL_now_118 : decode cL_now 118 = .ok (.goto (-24), 3) := by decide +kernel
theorem dL_now_121 : decode cL_now 121 = .ok (.ldc2_w 104, 3) := by decide +kernel
theorem dL_now_124 : decode cL_now 124 = .ok (.ldc2_w 104, 3) := by decide +kernel
theorem dL_now_127 : decode cL_now 127 = .ok (.lload_n 1, 1) := by decide +kernel
theorem dL_now_128 : decode cL_now 128 = .ok (.lmul, 1) := by decide +kernel
theorem dL_now_129 : decode cL_now 129 = .ok (.aload_n 0, 1) := by decide +kernel
theorem dL_now_130 : decode cL_now 130 = .ok (.iload_n 3, 1) := by decide +kernel
theorem dL_now_131 : decode cL_now 131 = .ok (.invokestatic 116, 3) := by decide +kernel
theorem dL_now_134 : decode cL_now 134 = .ok (.ladd, 1) := by decide +kernel
theorem dL_now_135 : decode cL_now 135 = .ok (.lmul, 1) := by decide +kernel
theorem dL_now_136 : decode cL_now 136 = .ok (.aload_n 0, 1) := by decide +kernel
theorem dL_now_137 : decode cL_now 137 = .ok (.iload_n 3, 1) := by decide +kernel
theorem dL_now_138 : decode cL_now 138 = .ok (.invokestatic 118, 3) := by decide +kernel
theorem dL_now_141 : decode cL_now 141 = .ok (.ladd, 1) := by decide +kernel
theorem dL_now_142 : decode cL_now 142 = .ok (.lstore_n 1, 1) := by decide +kernel
theorem dL_now_143 : decode cL_now 143 = .ok (.iinc 3 1, 3) := by decide +kernel
theorem dL_now_146 : decode cL_now 146 = .ok (.goto (-66), 3) := by decide +kernel
theorem dL_now_149 : decode cL_now 149 = .ok (.lload_n 1, 1) := by decide +kernel
theorem dL_now_150 : decode cL_now 150 = .ok (.lreturn, 1) := by decide +kernel
theorem dL_errors_0 : decode cL_errors 0 = .ok (.aload_n 0, 1) := by decide +kernel
theorem dL_errors_1 : decode cL_errors 1 = .ok (.invokestatic 120, 3) := by decide +kernel
theorem dL_errors_4 : decode cL_errors 4 = .ok (.lstore_n 1, 1) := by decide +kernel
theorem dL_errors_5 : decode cL_errors 5 = .ok (.aload_n 0, 1) := by decide +kernel
theorem dL_errors_6 : decode cL_errors 6 = .ok (.iconst 0, 1) := by decide +kernel
theorem dL_errors_7 : decode cL_errors 7 = .ok (.invokestatic 106, 3) := by decide +kernel
theorem dL_errors_10 : decode cL_errors 10 = .ok (.l2i, 1) := by decide +kernel
theorem dL_errors_11 : decode cL_errors 11 = .ok (.istore_n 3, 1) := by decide +kernel
theorem dL_errors_12 : decode cL_errors 12 = .ok (.aload_n 0, 1) := by decide +kernel
theorem dL_errors_13 : decode cL_errors 13 = .ok (.iconst 1, 1) := by decide +kernel
theorem dL_errors_14 : decode cL_errors 14 = .ok (.invokestatic 106, 3) := by decide +kernel
theorem dL_errors_17 : decode cL_errors 17 = .ok (.l2i, 1) := by decide +kernel
theorem dL_errors_18 : decode cL_errors 18 = .ok (.istore 4, 2) := by decide +kernel
theorem dL_errors_20 : decode cL_errors 20 = .ok (.aload_n 0, 1) := by decide +kernel
theorem dL_errors_21 : decode cL_errors 21 = .ok (.iconst (-1), 1) := by decide +kernel
theorem dL_errors_22 : decode cL_errors 22 = .ok (.invokestatic 106, 3) := by decide +kernel
theorem dL_errors_25 : decode cL_errors 25 = .ok (.ldc2_w 17, 3) := by decide +kernel
theorem dL_errors_28 : decode cL_errors 28 = .ok (.lcmp, 1) := by decide +kernel
theorem dL_errors_29 : decode cL_errors 29 = .ok (.ifCond .ne 227, 3) := by decide +kernel
theorem dL_errors_32 : decode cL_errors 32 = .ok (.aload_n 0, 1) := by decide +kernel
theorem dL_errors_33 : decode cL_errors 33 = .ok (.bipush 6, 2) := by decide +kernel
theorem dL_errors_35 : decode cL_errors 35 = .ok (.invokestatic 106, 3) := by decide +kernel
theorem dL_errors_38 : decode cL_errors 38 = .ok (.ldc2_w 17, 3) := by decide +kernel
theorem dL_errors_41 : decode cL_errors 41 = .ok (.lcmp, 1) := by decide +kernel
theorem dL_errors_42 : decode cL_errors 42 = .ok (.ifCond .ne 214, 3) := by decide +kernel
theorem dL_errors_45 : decode cL_errors 45 = .ok (.aload_n 0, 1) := by decide +kernel
theorem dL_errors_46 : decode cL_errors 46 = .ok (.iload_n 3, 1) := by decide +kernel
theorem dL_errors_47 : decode cL_errors 47 = .ok (.bipush 9, 2) := by decide +kernel
theorem dL_errors_49 : decode cL_errors 49 = .ok (.invokestatic 111, 3) := by decide +kernel
theorem dL_errors_52 : decode cL_errors 52 = .ok (.ldc2_w 36, 3) := by decide +kernel
theorem dL_errors_55 : decode cL_errors 55 = .ok (.lcmp, 1) := by decide +kernel
theorem dL_errors_56 : decode cL_errors 56 = .ok (.ifCond .ne 200, 3) := by decide +kernel
theorem dL_errors_59 : decode cL_errors 59 = .ok (.aload_n 0, 1) := by decide +kernel
theorem dL_errors_60 : decode cL_errors 60 = .ok (.iconst 0, 1) := by decide +kernel
theorem dL_errors_61 : decode cL_errors 61 = .ok (.iconst 4, 1) := by decide +kernel
theorem dL_errors_62 : decode cL_errors 62 = .ok (.invokestatic 111, 3) := by decide +kernel
theorem dL_errors_65 : decode cL_errors 65 = .ok (.ldc2_w 17, 3) := by decide +kernel
theorem dL_errors_68 : decode cL_errors 68 = .ok (.lcmp, 1) := by decide +kernel
theorem dL_errors_69 : decode cL_errors 69 = .ok (.ifCond .ne 187, 3) := by decide +kernel
theorem dL_errors_72 : decode cL_errors 72 = .ok (.aload_n 0, 1) := by decide +kernel
theorem dL_errors_73 : decode cL_errors 73 = .ok (.iload_n 3, 1) := by decide +kernel
theorem dL_errors_74 : decode cL_errors 74 = .ok (.iconst (-1), 1) := by decide +kernel
theorem dL_errors_75 : decode cL_errors 75 = .ok (.invokestatic 124, 3) := by decide +kernel
theorem dL_errors_78 : decode cL_errors 78 = .ok (.ldc2_w 36, 3) := by decide +kernel
theorem dL_errors_81 : decode cL_errors 81 = .ok (.lcmp, 1) := by decide +kernel
theorem dL_errors_82 : decode cL_errors 82 = .ok (.ifCond .ne 174, 3) := by decide +kernel
theorem dL_errors_85 : decode cL_errors 85 = .ok (.aload_n 0, 1) := by decide +kernel
theorem dL_errors_86 : decode cL_errors 86 = .ok (.iconst 0, 1) := by decide +kernel
theorem dL_errors_87 : decode cL_errors 87 = .ok (.iconst (-1), 1) := by decide +kernel
theorem dL_errors_88 : decode cL_errors 88 = .ok (.invokestatic 124, 3) := by decide +kernel
theorem dL_errors_91 : decode cL_errors 91 = .ok (.ldc2_w 17, 3) := by decide +kernel
theorem dL_errors_94 : decode cL_errors 94 = .ok (.lcmp, 1) := by decide +kernel
theorem dL_errors_95 : decode cL_errors 95 = .ok (.ifCond .ne 161, 3) := by decide +kernel
theorem dL_errors_98 : decode cL_errors 98 = .ok (.aload_n 0, 1) := by decide +kernel
theorem dL_errors_99 : decode cL_errors 99 = .ok (.iconst 0, 1) := by decide +kernel
theorem dL_errors_100 : decode cL_errors 100 = .ok (.iconst 1, 1) := by decide +kernel
theorem dL_errors_101 : decode cL_errors 101 = .ok (.iload_n 3, 1) := by decide +kernel
theorem dL_errors_102 : decode cL_errors 102 = .ok (.ishl, 1) := by decide +kernel
theorem dL_errors_103 : decode cL_errors 103 = .ok (.invokestatic 124, 3) := by decide +kernel
theorem dL_errors_106 : decode cL_errors 106 = .ok (.ldc2_w 17, 3) := by decide +kernel
theorem dL_errors_109 : decode cL_errors 109 = .ok (.lcmp, 1) := by decide +kernel
theorem dL_errors_110 : decode cL_errors 110 = .ok (.ifCond .ne 146, 3) := by decide +kernel
theorem dL_errors_113 : decode cL_errors 113 = .ok (.aload_n 0, 1) := by decide +kernel
theorem dL_errors_114 : decode cL_errors 114 = .ok (.iload 4, 2) := by decide +kernel
theorem dL_errors_116 : decode cL_errors 116 = .ok (.bipush 9, 2) := by decide +kernel
theorem dL_errors_118 : decode cL_errors 118 = .ok (.invokestatic 114, 3) := by decide +kernel
theorem dL_errors_121 : decode cL_errors 121 = .ok (.ldc2_w 36, 3) := by decide +kernel
theorem dL_errors_124 : decode cL_errors 124 = .ok (.lcmp, 1) := by decide +kernel
theorem dL_errors_125 : decode cL_errors 125 = .ok (.ifCond .ne 131, 3) := by decide +kernel
theorem dL_errors_128 : decode cL_errors 128 = .ok (.aload_n 0, 1) := by decide +kernel
theorem dL_errors_129 : decode cL_errors 129 = .ok (.iload 4, 2) := by decide +kernel
theorem dL_errors_131 : decode cL_errors 131 = .ok (.iconst (-1), 1) := by decide +kernel
theorem dL_errors_132 : decode cL_errors 132 = .ok (.invokestatic 126, 3) := by decide +kernel
theorem dL_errors_135 : decode cL_errors 135 = .ok (.ldc2_w 36, 3) := by decide +kernel
theorem dL_errors_138 : decode cL_errors 138 = .ok (.lcmp, 1) := by decide +kernel
theorem dL_errors_139 : decode cL_errors 139 = .ok (.ifCond .ne 117, 3) := by decide +kernel
theorem dL_errors_142 : decode cL_errors 142 = .ok (.aload_n 0, 1) := by decide +kernel
theorem dL_errors_143 : decode cL_errors 143 = .ok (.iconst (-1), 1) := by decide +kernel
theorem dL_errors_144 : decode cL_errors 144 = .ok (.invokestatic 116, 3) := by decide +kernel
theorem dL_errors_147 : decode cL_errors 147 = .ok (.ldc2_w 36, 3) := by decide +kernel
theorem dL_errors_150 : decode cL_errors 150 = .ok (.lcmp, 1) := by decide +kernel
theorem dL_errors_151 : decode cL_errors 151 = .ok (.ifCond .ne 105, 3) := by decide +kernel
theorem dL_errors_154 : decode cL_errors 154 = .ok (.aload_n 0, 1) := by decide +kernel
theorem dL_errors_155 : decode cL_errors 155 = .ok (.iload 4, 2) := by decide +kernel
theorem dL_errors_157 : decode cL_errors 157 = .ok (.iconst 0, 1) := by decide +kernel
theorem dL_errors_158 : decode cL_errors 158 = .ok (.invokestatic 128, 3) := by decide +kernel
theorem dL_errors_161 : decode cL_errors 161 = .ok (.ldc2_w 36, 3) := by decide +kernel
theorem dL_errors_164 : decode cL_errors 164 = .ok (.lcmp, 1) := by decide +kernel
theorem dL_errors_165 : decode cL_errors 165 = .ok (.ifCond .ne 91, 3) := by decide +kernel
theorem dL_errors_168 : decode cL_errors 168 = .ok (.aload_n 0, 1) := by decide +kernel
theorem dL_errors_169 : decode cL_errors 169 = .ok (.iload 4, 2) := by decide +kernel
theorem dL_errors_171 : decode cL_errors 171 = .ok (.invokestatic 130, 3) := by decide +kernel
theorem dL_errors_174 : decode cL_errors 174 = .ok (.ldc2_w 36, 3) := by decide +kernel
theorem dL_errors_177 : decode cL_errors 177 = .ok (.lcmp, 1) := by decide +kernel
theorem dL_errors_178 : decode cL_errors 178 = .ok (.ifCond .ne 78, 3) := by decide +kernel
theorem dL_errors_181 : decode cL_errors 181 = .ok (.aload_n 0, 1) := by decide +kernel
theorem dL_errors_182 : decode cL_errors 182 = .ok (.iconst (-1), 1) := by decide +kernel
theorem dL_errors_183 : decode cL_errors 183 = .ok (.invokestatic 132, 3) := by decide +kernel
theorem dL_errors_186 : decode cL_errors 186 = .ok (.ldc2_w 36, 3) := by decide +kernel
theorem dL_errors_189 : decode cL_errors 189 = .ok (.lcmp, 1) := by decide +kernel
theorem dL_errors_190 : decode cL_errors 190 = .ok (.ifCond .ne 66, 3) := by decide +kernel
theorem dL_errors_193 : decode cL_errors 193 = .ok (.aload_n 0, 1) := by decide +kernel
theorem dL_errors_194 : decode cL_errors 194 = .ok (.iload_n 3, 1) := by decide +kernel
theorem dL_errors_195 : decode cL_errors 195 = .ok (.bipush 10, 2) := by decide +kernel
theorem dL_errors_197 : decode cL_errors 197 = .ok (.iconst 0, 1) := by decide +kernel
theorem dL_errors_198 : decode cL_errors 198 = .ok (.invokestatic 134, 3) := by decide +kernel
theorem dL_errors_201 : decode cL_errors 201 = .ok (.ldc2_w 36, 3) := by decide +kernel
theorem dL_errors_204 : decode cL_errors 204 = .ok (.lcmp, 1) := by decide +kernel
theorem dL_errors_205 : decode cL_errors 205 = .ok (.ifCond .ne 51, 3) := by decide +kernel
theorem dL_errors_208 : decode cL_errors 208 = .ok (.aload_n 0, 1) := by decide +kernel
theorem dL_errors_209 : decode cL_errors 209 = .ok (.iconst 0, 1) := by decide +kernel
theorem dL_errors_210 : decode cL_errors 210 = .ok (.iconst 0, 1) := by decide +kernel
theorem dL_errors_211 : decode cL_errors 211 = .ok (.bipush 10, 2) := by decide +kernel
theorem dL_errors_213 : decode cL_errors 213 = .ok (.invokestatic 134, 3) := by decide +kernel
theorem dL_errors_216 : decode cL_errors 216 = .ok (.ldc2_w 17, 3) := by decide +kernel
theorem dL_errors_219 : decode cL_errors 219 = .ok (.lcmp, 1) := by decide +kernel
theorem dL_errors_220 : decode cL_errors 220 = .ok (.ifCond .ne 36, 3) := by decide +kernel
theorem dL_errors_223 : decode cL_errors 223 = .ok (.aload_n 0, 1) := by decide +kernel
theorem dL_errors_224 : decode cL_errors 224 = .ok (.iload_n 3, 1) := by decide +kernel
theorem dL_errors_225 : decode cL_errors 225 = .ok (.invokestatic 137, 3) := by decide +kernel
theorem dL_errors_228 : decode cL_errors 228 = .ok (.ldc2_w 36, 3) := by decide +kernel
theorem dL_errors_231 : decode cL_errors 231 = .ok (.lcmp, 1) := by decide +kernel
theorem dL_errors_232 : decode cL_errors 232 = .ok (.ifCond .ne 24, 3) := by decide +kernel
theorem dL_errors_235 : decode cL_errors 235 = .ok (.iload 4, 2) := by decide +kernel
theorem dL_errors_237 : decode cL_errors 237 = .ok (.iconst 4, 1) := by decide +kernel
theorem dL_errors_238 : decode cL_errors 238 = .ok (.if_icmp .lt 14, 3) := by decide +kernel
theorem dL_errors_241 : decode cL_errors 241 = .ok (.aload_n 0, 1) := by decide +kernel
theorem dL_errors_242 : decode cL_errors 242 = .ok (.invokestatic 139, 3) := by decide +kernel
theorem dL_errors_245 : decode cL_errors 245 = .ok (.ldc2_w 21, 3) := by decide +kernel
theorem dL_errors_248 : decode cL_errors 248 = .ok (.lcmp, 1) := by decide +kernel
theorem dL_errors_249 : decode cL_errors 249 = .ok (.ifCond .ne 7, 3) := by decide +kernel
theorem dL_errors_252 : decode cL_errors 252 = .ok (.iconst 1, 1) := by decide +kernel
theorem dL_errors_253 : decode cL_errors 253 = .ok (.goto 4, 3) := by decide +kernel
theorem dL_errors_256 : decode cL_errors 256 = .ok (.iconst 0, 1) := by decide +kernel
theorem dL_errors_257 : decode cL_errors 257 = .ok (.istore 5, 2) := by decide +kernel
theorem dL_errors_259 : decode cL_errors 259 = .ok (.iconst 0, 1) := by decide +kernel
theorem dL_errors_260 : decode cL_errors 260 = .ok (.istore 6, 2) := by decide +kernel
theorem dL_errors_262 : decode cL_errors 262 = .ok (.iload 6, 2) := by decide +kernel
theorem dL_errors_264 : decode cL_errors 264 = .ok (.iload 4, 2) := by decide +kernel
theorem dL_errors_266 : decode cL_errors 266 = .ok (.if_icmp .ge 172, 3) := by decide +kernel
theorem dL_errors_269 : decode cL_errors 269 = .ok (.iload 5, 2) := by decide +kernel
theorem dL_errors_271 : decode cL_errors 271 = .ok (.ifCond .eq 167, 3) := by decide +kernel
theorem dL_errors_274 : decode cL_errors 274 = .ok (.aload_n 0, 1) := by decide +kernel
theorem dL_errors_275 : decode cL_errors 275 = .ok (.iload 6, 2) := by decide +kernel
theorem dL_errors_277 : decode cL_errors 277 = .ok (.bipush 6, 2) := by decide +kernel
theorem dL_errors_279 : decode cL_errors 279 = .ok (.invokestatic 114, 3) := by decide +kernel
theorem dL_errors_282 : decode cL_errors 282 = .ok (.ldc2_w 17, 3) := by decide +kernel
theorem dL_errors_285 : decode cL_errors 285 = .ok (.lcmp, 1) := by decide +kernel
theorem dL_errors_286 : decode cL_errors 286 = .ok (.ifCond .ne 87, 3) := by decide +kernel
theorem dL_errors_289 : decode cL_errors 289 = .ok (.aload_n 0, 1) := by decide +kernel
theorem dL_errors_290 : decode cL_errors 290 = .ok (.iload 6, 2) := by decide +kernel
theorem dL_errors_292 : decode cL_errors 292 = .ok (.iconst (-1), 1) := by decide +kernel
theorem dL_errors_293 : decode cL_errors 293 = .ok (.invokestatic 126, 3) := by decide +kernel
theorem dL_errors_296 : decode cL_errors 296 = .ok (.ldc2_w 17, 3) := by decide +kernel
theorem dL_errors_299 : decode cL_errors 299 = .ok (.lcmp, 1) := by decide +kernel
theorem dL_errors_300 : decode cL_errors 300 = .ok (.ifCond .ne 73, 3) := by decide +kernel
theorem dL_errors_303 : decode cL_errors 303 = .ok (.aload_n 0, 1) := by decide +kernel
theorem dL_errors_304 : decode cL_errors 304 = .ok (.iload 6, 2) := by decide +kernel
theorem dL_errors_306 : decode cL_errors 306 = .ok (.iload_n 3, 1) := by decide +kernel
theorem dL_errors_307 : decode cL_errors 307 = .ok (.invokestatic 128, 3) := by decide +kernel
theorem dL_errors_310 : decode cL_errors 310 = .ok (.ldc2_w 36, 3) := by decide +kernel
theorem dL_errors_313 : decode cL_errors 313 = .ok (.lcmp, 1) := by decide +kernel
theorem dL_errors_314 : decode cL_errors 314 = .ok (.ifCond .ne 59, 3) := by decide +kernel
theorem dL_errors_317 : decode cL_errors 317 = .ok (.aload_n 0, 1) := by decide +kernel
theorem dL_errors_318 : decode cL_errors 318 = .ok (.iload 6, 2) := by decide +kernel
theorem dL_errors_320 : decode cL_errors 320 = .ok (.iconst 2, 1) := by decide +kernel
theorem dL_errors_321 : decode cL_errors 321 = .ok (.invokestatic 141, 3) := by decide +kernel
theorem dL_errors_324 : decode cL_errors 324 = .ok (.ldc2_w 17, 3) := by decide +kernel
theorem dL_errors_327 : decode cL_errors 327 = .ok (.lcmp, 1) := by decide +kernel
theorem dL_errors_328 : decode cL_errors 328 = .ok (.ifCond .ne 45, 3) := by decide +kernel
theorem dL_errors_331 : decode cL_errors 331 = .ok (.aload_n 0, 1) := by decide +kernel
theorem dL_errors_332 : decode cL_errors 332 = .ok (.iload 6, 2) := by decide +kernel
theorem dL_errors_334 : decode cL_errors 334 = .ok (.iconst (-1), 1) := by decide +kernel
theorem dL_errors_335 : decode cL_errors 335 = .ok (.invokestatic 143, 3) := by decide +kernel
theorem dL_errors_338 : decode cL_errors 338 = .ok (.ldc2_w 17, 3) := by decide +kernel
theorem dL_errors_341 : decode cL_errors 341 = .ok (.lcmp, 1) := by decide +kernel
theorem dL_errors_342 : decode cL_errors 342 = .ok (.ifCond .ne 31, 3) := by decide +kernel
theorem dL_errors_345 : decode cL_errors 345 = .ok (.aload_n 0, 1) := by decide +kernel
theorem dL_errors_346 : decode cL_errors 346 = .ok (.iload 6, 2) := by decide +kernel
theorem dL_errors_348 : decode cL_errors 348 = .ok (.invokestatic 145, 3) := by decide +kernel
theorem dL_errors_351 : decode cL_errors 351 = .ok (.lconst 0, 1) := by decide +kernel
theorem dL_errors_352 : decode cL_errors 352 = .ok (.lcmp, 1) := by decide +kernel
theorem dL_errors_353 : decode cL_errors 353 = .ok (.ifCond .gt 16, 3) := by decide +kernel
theorem dL_errors_356 : decode cL_errors 356 = .ok (.aload_n 0, 1) := by decide +kernel
theorem dL_errors_357 : decode cL_errors 357 = .ok (.iload 6, 2) := by decide +kernel
theorem dL_errors_359 : decode cL_errors 359 = .ok (.invokestatic 130, 3) := by decide +kernel
theorem dL_errors_362 : decode cL_errors 362 = .ok (.ldc2_w 21, 3) := by decide +kernel
theorem dL_errors_365 : decode cL_errors 365 = .ok (.lcmp, 1) := by decide +kernel
theorem dL_errors_366 : decode cL_errors 366 = .ok (.ifCond .ne 7, 3) := by decide +kernel
theorem dL_errors_369 : decode cL_errors 369 = .ok (.iconst 1, 1) := by decide +kernel
theorem dL_errors_370 : decode cL_errors 370 = .ok (.goto 4, 3) := by decide +kernel
theorem dL_errors_373 : decode cL_errors 373 = .ok (.iconst 0, 1) := by decide +kernel
theorem dL_errors_374 : decode cL_errors 374 = .ok (.istore 5, 2) := by decide +kernel
theorem dL_errors_376 : decode cL_errors 376 = .ok (.iconst 0, 1) := by decide +kernel
theorem dL_errors_377 : decode cL_errors 377 = .ok (.istore 7, 2) := by decide +kernel
theorem dL_errors_379 : decode cL_errors 379 = .ok (.iload 7, 2) := by decide +kernel
theorem dL_errors_381 : decode cL_errors 381 = .ok (.iload_n 3, 1) := by decide +kernel
theorem dL_errors_382 : decode cL_errors 382 = .ok (.if_icmp .ge 50, 3) := by decide +kernel
theorem dL_errors_385 : decode cL_errors 385 = .ok (.iload 5, 2) := by decide +kernel
theorem dL_errors_387 : decode cL_errors 387 = .ok (.ifCond .eq 45, 3) := by decide +kernel
theorem dL_errors_390 : decode cL_errors 390 = .ok (.aload_n 0, 1) := by decide +kernel
theorem dL_errors_391 : decode cL_errors 391 = .ok (.iload 6, 2) := by decide +kernel
theorem dL_errors_393 : decode cL_errors 393 = .ok (.invokestatic 116, 3) := by decide +kernel
theorem dL_errors_396 : decode cL_errors 396 = .ok (.iload 7, 2) := by decide +kernel
theorem dL_errors_398 : decode cL_errors 398 = .ok (.invokestatic 147, 3) := by decide +kernel
theorem dL_errors_401 : decode cL_errors 401 = .ok (.ifCond .ne 18, 3) := by decide +kernel
theorem dL_errors_404 : decode cL_errors 404 = .ok (.aload_n 0, 1) := by decide +kernel
theorem dL_errors_405 : decode cL_errors 405 = .ok (.iload 6, 2) := by decide +kernel
theorem dL_errors_407 : decode cL_errors 407 = .ok (.iload 7, 2) := by decide +kernel
theorem dL_errors_409 : decode cL_errors 409 = .ok (.invokestatic 128, 3) := by decide +kernel
theorem dL_errors_412 : decode cL_errors 412 = .ok (.ldc2_w 21, 3) := by decide +kernel
theorem dL_errors_415 : decode cL_errors 415 = .ok (.lcmp, 1) := by decide +kernel
theorem dL_errors_416 : decode cL_errors 416 = .ok (.ifCond .ne 7, 3) := by decide +kernel
theorem dL_errors_419 : decode cL_errors 419 = .ok (.iconst 1, 1) := by decide +kernel
theorem dL_errors_420 : decode cL_errors 420 = .ok (.goto 4, 3) := by decide +kernel
theorem dL_errors_423 : decode cL_errors 423 = .ok (.iconst 0, 1) := by decide +kernel
theorem dL_errors_424 : decode cL_errors 424 = .ok (.istore 5, 2) := by decide +kernel
theorem dL_errors_426 : decode cL_errors 426 = .ok (.iinc 7 1, 3) := by decide +kernel
theorem dL_errors_429 : decode cL_errors 429 = .ok (.goto (-50), 3) := by decide +kernel
theorem dL_errors_432 : decode cL_errors 432 = .ok (.iinc 6 1, 3) := by decide +kernel
theorem dL_errors_435 : decode cL_errors 435 = .ok (.goto (-173), 3) := by decide +kernel
theorem dL_errors_438 : decode cL_errors 438 = .ok (.iload 5, 2) := by decide +kernel
theorem dL_errors_440 : decode cL_errors 440 = .ok (.ifCond .eq 159, 3) := by decide +kernel
theorem dL_errors_443 : decode cL_errors 443 = .ok (.aload_n 0, 1) := by decide +kernel
theorem dL_errors_444 : decode cL_errors 444 = .ok (.iload 4, 2) := by decide +kernel
theorem dL_errors_446 : decode cL_errors 446 = .ok (.iconst 0, 1) := by decide +kernel
theorem dL_errors_447 : decode cL_errors 447 = .ok (.invokestatic 141, 3) := by decide +kernel
theorem dL_errors_450 : decode cL_errors 450 = .ok (.ldc2_w 36, 3) := by decide +kernel
theorem dL_errors_453 : decode cL_errors 453 = .ok (.lcmp, 1) := by decide +kernel
theorem dL_errors_454 : decode cL_errors 454 = .ok (.ifCond .ne 145, 3) := by decide +kernel
theorem dL_errors_457 : decode cL_errors 457 = .ok (.aload_n 0, 1) := by decide +kernel
theorem dL_errors_458 : decode cL_errors 458 = .ok (.iload 4, 2) := by decide +kernel
theorem dL_errors_460 : decode cL_errors 460 = .ok (.iconst 0, 1) := by decide +kernel
theorem dL_errors_461 : decode cL_errors 461 = .ok (.invokestatic 143, 3) := by decide +kernel
theorem dL_errors_464 : decode cL_errors 464 = .ok (.ldc2_w 36, 3) := by decide +kernel
theorem dL_errors_467 : decode cL_errors 467 = .ok (.lcmp, 1) := by decide +kernel
theorem dL_errors_468 : decode cL_errors 468 = .ok (.ifCond .ne 131, 3) := by decide +kernel
theorem dL_errors_471 : decode cL_errors 471 = .ok (.aload_n 0, 1) := by decide +kernel
theorem dL_errors_472 : decode cL_errors 472 = .ok (.iconst (-1), 1) := by decide +kernel
theorem dL_errors_473 : decode cL_errors 473 = .ok (.invokestatic 118, 3) := by decide +kernel
theorem dL_errors_476 : decode cL_errors 476 = .ok (.ldc2_w 36, 3) := by decide +kernel
theorem dL_errors_479 : decode cL_errors 479 = .ok (.lcmp, 1) := by decide +kernel
theorem dL_errors_480 : decode cL_errors 480 = .ok (.ifCond .ne 119, 3) := by decide +kernel
theorem dL_errors_483 : decode cL_errors 483 = .ok (.aload_n 0, 1) := by decide +kernel
theorem dL_errors_484 : decode cL_errors 484 = .ok (.iload 4, 2) := by decide +kernel
theorem dL_errors_486 : decode cL_errors 486 = .ok (.invokestatic 145, 3) := by decide +kernel
theorem dL_errors_489 : decode cL_errors 489 = .ok (.ldc2_w 36, 3) := by decide +kernel
theorem dL_errors_492 : decode cL_errors 492 = .ok (.lcmp, 1) := by decide +kernel
theorem dL_errors_493 : decode cL_errors 493 = .ok (.ifCond .ne 106, 3) := by decide +kernel
theorem dL_errors_496 : decode cL_errors 496 = .ok (.aload_n 0, 1) := by decide +kernel
theorem dL_errors_497 : decode cL_errors 497 = .ok (.iload 4, 2) := by decide +kernel
theorem dL_errors_499 : decode cL_errors 499 = .ok (.invokestatic 151, 3) := by decide +kernel
theorem dL_errors_502 : decode cL_errors 502 = .ok (.ldc2_w 36, 3) := by decide +kernel
theorem dL_errors_505 : decode cL_errors 505 = .ok (.lcmp, 1) := by decide +kernel
theorem dL_errors_506 : decode cL_errors 506 = .ok (.ifCond .ne 93, 3) := by decide +kernel
theorem dL_errors_509 : decode cL_errors 509 = .ok (.aload_n 0, 1) := by decide +kernel
theorem dL_errors_510 : decode cL_errors 510 = .ok (.iconst 0, 1) := by decide +kernel
theorem dL_errors_511 : decode cL_errors 511 = .ok (.lconst 0, 1) := by decide +kernel
theorem dL_errors_512 : decode cL_errors 512 = .ok (.invokestatic 153, 3) := by decide +kernel
theorem dL_errors_515 : decode cL_errors 515 = .ok (.ldc2_w 17, 3) := by decide +kernel
theorem dL_errors_518 : decode cL_errors 518 = .ok (.lcmp, 1) := by decide +kernel
theorem dL_errors_519 : decode cL_errors 519 = .ok (.ifCond .ne 80, 3) := by decide +kernel
theorem dL_errors_522 : decode cL_errors 522 = .ok (.aload_n 0, 1) := by decide +kernel
theorem dL_errors_523 : decode cL_errors 523 = .ok (.iconst 4, 1) := by decide +kernel
theorem dL_errors_524 : decode cL_errors 524 = .ok (.ldc2_w 157, 3) := by decide +kernel
theorem dL_errors_527 : decode cL_errors 527 = .ok (.invokestatic 153, 3) := by decide +kernel
theorem dL_errors_530 : decode cL_errors 530 = .ok (.ldc2_w 17, 3) := by decide +kernel
theorem dL_errors_533 : decode cL_errors 533 = .ok (.lcmp, 1) := by decide +kernel
theorem dL_errors_534 : decode cL_errors 534 = .ok (.ifCond .ne 65, 3) := by decide +kernel
theorem dL_errors_537 : decode cL_errors 537 = .ok (.aload_n 0, 1) := by decide +kernel
theorem dL_errors_538 : decode cL_errors 538 = .ok (.lconst 1, 1) := by decide +kernel
theorem dL_errors_539 : decode cL_errors 539 = .ok (.iconst 0, 1) := by decide +kernel
theorem dL_errors_540 : decode cL_errors 540 = .ok (.invokestatic 159, 3) := by decide +kernel
theorem dL_errors_543 : decode cL_errors 543 = .ok (.ldc2_w 17, 3) := by decide +kernel
theorem dL_errors_546 : decode cL_errors 546 = .ok (.lcmp, 1) := by decide +kernel
theorem dL_errors_547 : decode cL_errors 547 = .ok (.ifCond .ne 52, 3) := by decide +kernel
theorem dL_errors_550 : decode cL_errors 550 = .ok (.aload_n 0, 1) := by decide +kernel
theorem dL_errors_551 : decode cL_errors 551 = .ok (.iconst 2, 1) := by decide +kernel
theorem dL_errors_552 : decode cL_errors 552 = .ok (.invokestatic 162, 3) := by decide +kernel
theorem dL_errors_555 : decode cL_errors 555 = .ok (.ldc2_w 36, 3) := by decide +kernel
theorem dL_errors_558 : decode cL_errors 558 = .ok (.lcmp, 1) := by decide +kernel
theorem dL_errors_559 : decode cL_errors 559 = .ok (.ifCond .ne 40, 3) := by decide +kernel
theorem dL_errors_562 : decode cL_errors 562 = .ok (.aload_n 0, 1) := by decide +kernel
theorem dL_errors_563 : decode cL_errors 563 = .ok (.iconst 2, 1) := by decide +kernel
theorem dL_errors_564 : decode cL_errors 564 = .ok (.invokestatic 164, 3) := by decide +kernel
theorem dL_errors_567 : decode cL_errors 567 = .ok (.ldc2_w 36, 3) := by decide +kernel
theorem dL_errors_570 : decode cL_errors 570 = .ok (.lcmp, 1) := by decide +kernel
theorem dL_errors_571 : decode cL_errors 571 = .ok (.ifCond .ne 28, 3) := by decide +kernel
theorem dL_errors_574 : decode cL_errors 574 = .ok (.aload_n 0, 1) := by decide +kernel
theorem dL_errors_575 : decode cL_errors 575 = .ok (.iconst (-1), 1) := by decide +kernel
theorem dL_errors_576 : decode cL_errors 576 = .ok (.invokestatic 166, 3) := by decide +kernel
theorem dL_errors_579 : decode cL_errors 579 = .ok (.ldc2_w 17, 3) := by decide +kernel
theorem dL_errors_582 : decode cL_errors 582 = .ok (.lcmp, 1) := by decide +kernel
theorem dL_errors_583 : decode cL_errors 583 = .ok (.ifCond .ne 16, 3) := by decide +kernel
theorem dL_errors_586 : decode cL_errors 586 = .ok (.aload_n 0, 1) := by decide +kernel
theorem dL_errors_587 : decode cL_errors 587 = .ok (.invokestatic 120, 3) := by decide +kernel
theorem dL_errors_590 : decode cL_errors 590 = .ok (.lload_n 1, 1) := by decide +kernel
theorem dL_errors_591 : decode cL_errors 591 = .ok (.lcmp, 1) := by decide +kernel
theorem dL_errors_592 : decode cL_errors 592 = .ok (.ifCond .ne 7, 3) := by decide +kernel
theorem dL_errors_595 : decode cL_errors 595 = .ok (.iconst 1, 1) := by decide +kernel
theorem dL_errors_596 : decode cL_errors 596 = .ok (.goto 4, 3) := by decide +kernel
theorem dL_errors_599 : decode cL_errors 599 = .ok (.iconst 0, 1) := by decide +kernel
theorem dL_errors_600 : decode cL_errors 600 = .ok (.ireturn, 1) := by decide +kernel
theorem dL_many_0 : decode cL_many 0 = .ok (.iconst 0, 1) := by decide +kernel
theorem dL_many_1 : decode cL_many 1 = .ok (.istore_n 2, 1) := by decide +kernel
theorem dL_many_2 : decode cL_many 2 = .ok (.iconst 0, 1) := by decide +kernel
theorem dL_many_3 : decode cL_many 3 = .ok (.istore_n 3, 1) := by decide +kernel
theorem dL_many_4 : decode cL_many 4 = .ok (.iload_n 3, 1) := by decide +kernel
theorem dL_many_5 : decode cL_many 5 = .ok (.bipush 10, 2) := by decide +kernel
theorem dL_many_7 : decode cL_many 7 = .ok (.if_icmp .ge 25, 3) := by decide +kernel
theorem dL_many_10 : decode cL_many 10 = .ok (.iload_n 2, 1) := by decide +kernel
theorem dL_many_11 : decode cL_many 11 = .ok (.lload_n 0, 1) := by decide +kernel
theorem dL_many_12 : decode cL_many 12 = .ok (.iload_n 3, 1) := by decide +kernel
theorem dL_many_13 : decode cL_many 13 = .ok (.invokestatic 147, 3) := by decide +kernel
theorem dL_many_16 : decode cL_many 16 = .ok (.ifCond .eq 7, 3) := by decide +kernel
theorem dL_many_19 : decode cL_many 19 = .ok (.iconst 1, 1) := by decide +kernel
theorem dL_many_20 : decode cL_many 20 = .ok (.goto 4, 3) := by decide +kernel
theorem dL_many_23 : decode cL_many 23 = .ok (.iconst 0, 1) := by decide +kernel
theorem dL_many_24 : decode cL_many 24 = .ok (.iadd, 1) := by decide +kernel
theorem dL_many_25 : decode cL_many 25 = .ok (.istore_n 2, 1) := by decide +kernel
theorem dL_many_26 : decode cL_many 26 = .ok (.iinc 3 1, 3) := by decide +kernel
theorem dL_many_29 : decode cL_many 29 = .ok (.goto (-25), 3) := by decide +kernel
theorem dL_many_32 : decode cL_many 32 = .ok (.iload_n 2, 1) := by decide +kernel
theorem dL_many_33 : decode cL_many 33 = .ok (.ireturn, 1) := by decide +kernel
theorem dL_kept_0 : decode cL_kept 0 = .ok (.aload_n 0, 1) := by decide +kernel
theorem dL_kept_1 : decode cL_kept 1 = .ok (.iconst 0, 1) := by decide +kernel
theorem dL_kept_2 : decode cL_kept 2 = .ok (.invokestatic 106, 3) := by decide +kernel
theorem dL_kept_5 : decode cL_kept 5 = .ok (.l2i, 1) := by decide +kernel
theorem dL_kept_6 : decode cL_kept 6 = .ok (.istore_n 1, 1) := by decide +kernel
theorem dL_kept_7 : decode cL_kept 7 = .ok (.aload_n 0, 1) := by decide +kernel
theorem dL_kept_8 : decode cL_kept 8 = .ok (.iconst 1, 1) := by decide +kernel
theorem dL_kept_9 : decode cL_kept 9 = .ok (.invokestatic 106, 3) := by decide +kernel
theorem dL_kept_12 : decode cL_kept 12 = .ok (.l2i, 1) := by decide +kernel
theorem dL_kept_13 : decode cL_kept 13 = .ok (.istore_n 2, 1) := by decide +kernel
theorem dL_kept_14 : decode cL_kept 14 = .ok (.iload_n 1, 1) := by decide +kernel
theorem dL_kept_15 : decode cL_kept 15 = .ok (.i2l, 1) := by decide +kernel
theorem dL_kept_16 : decode cL_kept 16 = .ok (.ldc2_w 168, 3) := by decide +kernel
theorem dL_kept_19 : decode cL_kept 19 = .ok (.ldc2_w 170, 3) := by decide +kernel
theorem dL_kept_22 : decode cL_kept 22 = .ok (.invokestatic 172, 3) := by decide +kernel
theorem dL_kept_25 : decode cL_kept 25 = .ok (.ifCond .eq 19, 3) := by decide +kernel
theorem dL_kept_28 : decode cL_kept 28 = .ok (.iload_n 2, 1) := by decide +kernel
theorem dL_kept_29 : decode cL_kept 29 = .ok (.i2l, 1) := by decide +kernel
theorem dL_kept_30 : decode cL_kept 30 = .ok (.lconst 0, 1) := by decide +kernel
theorem dL_kept_31 : decode cL_kept 31 = .ok (.ldc2_w 176, 3) := by decide +kernel
theorem dL_kept_34 : decode cL_kept 34 = .ok (.invokestatic 172, 3) := by decide +kernel
theorem dL_kept_37 : decode cL_kept 37 = .ok (.ifCond .eq 7, 3) := by decide +kernel
theorem dL_kept_40 : decode cL_kept 40 = .ok (.iconst 1, 1) := by decide +kernel
theorem dL_kept_41 : decode cL_kept 41 = .ok (.goto 4, 3) := by decide +kernel
theorem dL_kept_44 : decode cL_kept 44 = .ok (.iconst 0, 1) := by decide +kernel
theorem dL_kept_45 : decode cL_kept 45 = .ok (.istore_n 3, 1) := by decide +kernel
theorem dL_kept_46 : decode cL_kept 46 = .ok (.lconst 0, 1) := by decide +kernel
theorem dL_kept_47 : decode cL_kept 47 = .ok (.lstore 4, 2) := by decide +kernel
theorem dL_kept_49 : decode cL_kept 49 = .ok (.lconst 0, 1) := by decide +kernel
theorem dL_kept_50 : decode cL_kept 50 = .ok (.lstore 6, 2) := by decide +kernel
theorem dL_kept_52 : decode cL_kept 52 = .ok (.lconst 0, 1) := by decide +kernel
theorem dL_kept_53 : decode cL_kept 53 = .ok (.lstore 8, 2) := by decide +kernel
theorem dL_kept_55 : decode cL_kept 55 = .ok (.iconst 0, 1) := by decide +kernel
theorem dL_kept_56 : decode cL_kept 56 = .ok (.istore 10, 2) := by decide +kernel
theorem dL_kept_58 : decode cL_kept 58 = .ok (.iconst 0, 1) := by decide +kernel
theorem dL_kept_59 : decode cL_kept 59 = .ok (.istore 11, 2) := by decide +kernel
theorem dL_kept_61 : decode cL_kept 61 = .ok (.iload 11, 2) := by decide +kernel
theorem dL_kept_63 : decode cL_kept 63 = .ok (.iload_n 2, 1) := by decide +kernel
theorem dL_kept_64 : decode cL_kept 64 = .ok (.if_icmp .ge 748, 3) := by decide +kernel
theorem dL_kept_67 : decode cL_kept 67 = .ok (.iload_n 3, 1) := by decide +kernel
theorem dL_kept_68 : decode cL_kept 68 = .ok (.ifCond .eq 744, 3) := by decide +kernel
theorem dL_kept_71 : decode cL_kept 71 = .ok (.lconst 0, 1) := by decide +kernel
theorem dL_kept_72 : decode cL_kept 72 = .ok (.lstore 12, 2) := by decide +kernel
theorem dL_kept_74 : decode cL_kept 74 = .ok (.iconst 0, 1) := by decide +kernel
theorem dL_kept_75 : decode cL_kept 75 = .ok (.istore 14, 2) := by decide +kernel
theorem dL_kept_77 : decode cL_kept 77 = .ok (.iload 14, 2) := by decide +kernel
theorem dL_kept_79 : decode cL_kept 79 = .ok (.bipush 10, 2) := by decide +kernel
theorem dL_kept_81 : decode cL_kept 81 = .ok (.if_icmp .ge 99, 3) := by decide +kernel
theorem dL_kept_84 : decode cL_kept 84 = .ok (.aload_n 0, 1) := by decide +kernel
theorem dL_kept_85 : decode cL_kept 85 = .ok (.iload 11, 2) := by decide +kernel
theorem dL_kept_87 : decode cL_kept 87 = .ok (.iload 14, 2) := by decide +kernel
theorem dL_kept_89 : decode cL_kept 89 = .ok (.invokestatic 126, 3) := by decide +kernel
theorem dL_kept_92 : decode cL_kept 92 = .ok (.ldc2_w 178, 3) := by decide +kernel
theorem dL_kept_95 : decode cL_kept 95 = .ok (.lcmp, 1) := by decide +kernel
theorem dL_kept_96 : decode cL_kept 96 = .ok (.ifCond .eq 84, 3) := by decide +kernel
theorem dL_kept_99 : decode cL_kept 99 = .ok (.iload_n 3, 1) := by decide +kernel
theorem dL_kept_100 : decode cL_kept 100 = .ok (.ifCond .eq 80, 3) := by decide +kernel
theorem dL_kept_103 : decode cL_kept 103 = .ok (.lload 12, 2) := by decide +kernel
theorem dL_kept_105 : decode cL_kept 105 = .ok (.aload_n 0, 1) := by decide +kernel
theorem dL_kept_106 : decode cL_kept 106 = .ok (.iload 11, 2) := by decide +kernel
theorem dL_kept_108 : decode cL_kept 108 = .ok (.iload 14, 2) := by decide +kernel
theorem dL_kept_110 : decode cL_kept 110 = .ok (.invokestatic 126, 3) := by decide +kernel
theorem dL_kept_113 : decode cL_kept 113 = .ok (.l2i, 1) := by decide +kernel
theorem dL_kept_114 : decode cL_kept 114 = .ok (.invokestatic 147, 3) := by decide +kernel
theorem dL_kept_117 : decode cL_kept 117 = .ok (.ifCond .ne 39, 3) := by decide +kernel
theorem dL_kept_120 : decode cL_kept 120 = .ok (.aload_n 0, 1) := by decide +kernel
theorem dL_kept_121 : decode cL_kept 121 = .ok (.aload_n 0, 1) := by decide +kernel
theorem dL_kept_122 : decode cL_kept 122 = .ok (.iload 11, 2) := by decide +kernel
theorem dL_kept_124 : decode cL_kept 124 = .ok (.iload 14, 2) := by decide +kernel
theorem dL_kept_126 : decode cL_kept 126 = .ok (.invokestatic 126, 3) := by decide +kernel
theorem dL_kept_129 : decode cL_kept 129 = .ok (.l2i, 1) := by decide +kernel
theorem dL_kept_130 : decode cL_kept 130 = .ok (.lload 12, 2) := by decide +kernel
theorem dL_kept_132 : decode cL_kept 132 = .ok (.l2i, 1) := by decide +kernel
theorem dL_kept_133 : decode cL_kept 133 = .ok (.invokestatic 124, 3) := by decide +kernel
theorem dL_kept_136 : decode cL_kept 136 = .ok (.lconst 1, 1) := by decide +kernel
theorem dL_kept_137 : decode cL_kept 137 = .ok (.lcmp, 1) := by decide +kernel
theorem dL_kept_138 : decode cL_kept 138 = .ok (.ifCond .ne 18, 3) := by decide +kernel
theorem dL_kept_141 : decode cL_kept 141 = .ok (.lload 12, 2) := by decide +kernel
theorem dL_kept_143 : decode cL_kept 143 = .ok (.iload_n 1, 1) := by decide +kernel
theorem dL_kept_144 : decode cL_kept 144 = .ok (.iconst 1, 1) := by decide +kernel
theorem dL_kept_145 : decode cL_kept 145 = .ok (.isub, 1) := by decide +kernel
theorem dL_kept_146 : decode cL_kept 146 = .ok (.invokestatic 147, 3) := by decide +kernel
theorem dL_kept_149 : decode cL_kept 149 = .ok (.ifCond .ne 7, 3) := by decide +kernel
theorem dL_kept_152 : decode cL_kept 152 = .ok (.iconst 1, 1) := by decide +kernel
theorem dL_kept_153 : decode cL_kept 153 = .ok (.goto 4, 3) := by decide +kernel
theorem dL_kept_156 : decode cL_kept 156 = .ok (.iconst 0, 1) := by decide +kernel
theorem dL_kept_157 : decode cL_kept 157 = .ok (.istore_n 3, 1) := by decide +kernel
theorem dL_kept_158 : decode cL_kept 158 = .ok (.lload 12, 2) := by decide +kernel
theorem dL_kept_160 : decode cL_kept 160 = .ok (.lconst 1, 1) := by decide +kernel
theorem dL_kept_161 : decode cL_kept 161 = .ok (.aload_n 0, 1) := by decide +kernel
theorem dL_kept_162 : decode cL_kept 162 = .ok (.iload 11, 2) := by decide +kernel
theorem dL_kept_164 : decode cL_kept 164 = .ok (.iload 14, 2) := by decide +kernel
theorem dL_kept_166 : decode cL_kept 166 = .ok (.invokestatic 126, 3) := by decide +kernel
theorem dL_kept_169 : decode cL_kept 169 = .ok (.l2i, 1) := by decide +kernel
theorem dL_kept_170 : decode cL_kept 170 = .ok (.lshl, 1) := by decide +kernel
theorem dL_kept_171 : decode cL_kept 171 = .ok (.lor, 1) := by decide +kernel
theorem dL_kept_172 : decode cL_kept 172 = .ok (.lstore 12, 2) := by decide +kernel
theorem dL_kept_174 : decode cL_kept 174 = .ok (.iinc 14 1, 3) := by decide +kernel
theorem dL_kept_177 : decode cL_kept 177 = .ok (.goto (-100), 3) := by decide +kernel
theorem dL_kept_180 : decode cL_kept 180 = .ok (.lload 12, 2) := by decide +kernel
theorem dL_kept_182 : decode cL_kept 182 = .ok (.iload_n 1, 1) := by decide +kernel
theorem dL_kept_183 : decode cL_kept 183 = .ok (.iconst 1, 1) := by decide +kernel
theorem dL_kept_184 : decode cL_kept 184 = .ok (.isub, 1) := by decide +kernel
theorem dL_kept_185 : decode cL_kept 185 = .ok (.invokestatic 147, 3) := by decide +kernel
theorem dL_kept_188 : decode cL_kept 188 = .ok (.istore 15, 2) := by decide +kernel
theorem dL_kept_190 : decode cL_kept 190 = .ok (.ldc2_w 180, 3) := by decide +kernel
theorem dL_kept_193 : decode cL_kept 193 = .ok (.aload_n 0, 1) := by decide +kernel
theorem dL_kept_194 : decode cL_kept 194 = .ok (.iload 11, 2) := by decide +kernel
theorem dL_kept_196 : decode cL_kept 196 = .ok (.iconst 2, 1) := by decide +kernel
theorem dL_kept_197 : decode cL_kept 197 = .ok (.invokestatic 114, 3) := by decide +kernel
theorem dL_kept_200 : decode cL_kept 200 = .ok (.lsub, 1) := by decide +kernel
theorem dL_kept_201 : decode cL_kept 201 = .ok (.ldc2_w 170, 3) := by decide +kernel
theorem dL_kept_204 : decode cL_kept 204 = .ok (.aload_n 0, 1) := by decide +kernel
theorem dL_kept_205 : decode cL_kept 205 = .ok (.iload 11, 2) := by decide +kernel
theorem dL_kept_207 : decode cL_kept 207 = .ok (.iconst 3, 1) := by decide +kernel
theorem dL_kept_208 : decode cL_kept 208 = .ok (.invokestatic 114, 3) := by decide +kernel
theorem dL_kept_211 : decode cL_kept 211 = .ok (.lmul, 1) := by decide +kernel
theorem dL_kept_212 : decode cL_kept 212 = .ok (.lsub, 1) := by decide +kernel
theorem dL_kept_213 : decode cL_kept 213 = .ok (.lstore 16, 2) := by decide +kernel
theorem dL_kept_215 : decode cL_kept 215 = .ok (.iload 15, 2) := by decide +kernel
theorem dL_kept_217 : decode cL_kept 217 = .ok (.ifCond .eq 15, 3) := by decide +kernel
theorem dL_kept_220 : decode cL_kept 220 = .ok (.lload 16, 2) := by decide +kernel
theorem dL_kept_222 : decode cL_kept 222 = .ok (.lconst 0, 1) := by decide +kernel
theorem dL_kept_223 : decode cL_kept 223 = .ok (.lcmp, 1) := by decide +kernel
theorem dL_kept_224 : decode cL_kept 224 = .ok (.ifCond .le 8, 3) := by decide +kernel
theorem dL_kept_227 : decode cL_kept 227 = .ok (.lload 16, 2) := by decide +kernel
theorem dL_kept_229 : decode cL_kept 229 = .ok (.goto 4, 3) := by decide +kernel
theorem dL_kept_232 : decode cL_kept 232 = .ok (.lconst 0, 1) := by decide +kernel
theorem dL_kept_233 : decode cL_kept 233 = .ok (.lstore 16, 2) := by decide +kernel
theorem dL_kept_235 : decode cL_kept 235 = .ok (.aload_n 0, 1) := by decide +kernel
theorem dL_kept_236 : decode cL_kept 236 = .ok (.iload 11, 2) := by decide +kernel
theorem dL_kept_238 : decode cL_kept 238 = .ok (.invokestatic 116, 3) := by decide +kernel
theorem dL_kept_241 : decode cL_kept 241 = .ok (.lstore 18, 2) := by decide +kernel
theorem dL_kept_243 : decode cL_kept 243 = .ok (.aload_n 0, 1) := by decide +kernel
theorem dL_kept_244 : decode cL_kept 244 = .ok (.iload 11, 2) := by decide +kernel
theorem dL_kept_246 : decode cL_kept 246 = .ok (.invokestatic 145, 3) := by decide +kernel
theorem dL_kept_249 : decode cL_kept 249 = .ok (.lstore 20, 2) := by decide +kernel
theorem dL_kept_251 : decode cL_kept 251 = .ok (.iload_n 3, 1) := by decide +kernel
theorem dL_kept_252 : decode cL_kept 252 = .ok (.ifCond .eq 125, 3) := by decide +kernel
theorem dL_kept_255 : decode cL_kept 255 = .ok (.aload_n 0, 1) := by decide +kernel
theorem dL_kept_256 : decode cL_kept 256 = .ok (.iload 11, 2) := by decide +kernel
theorem dL_kept_258 : decode cL_kept 258 = .ok (.iconst 0, 1) := by decide +kernel
theorem dL_kept_259 : decode cL_kept 259 = .ok (.invokestatic 114, 3) := by decide +kernel
theorem dL_kept_262 : decode cL_kept 262 = .ok (.lload 12, 2) := by decide +kernel
theorem dL_kept_264 : decode cL_kept 264 = .ok (.lcmp, 1) := by decide +kernel
theorem dL_kept_265 : decode cL_kept 265 = .ok (.ifCond .ne 112, 3) := by decide +kernel
theorem dL_kept_268 : decode cL_kept 268 = .ok (.aload_n 0, 1) := by decide +kernel
theorem dL_kept_269 : decode cL_kept 269 = .ok (.iload 11, 2) := by decide +kernel
theorem dL_kept_271 : decode cL_kept 271 = .ok (.iconst 1, 1) := by decide +kernel
theorem dL_kept_272 : decode cL_kept 272 = .ok (.invokestatic 114, 3) := by decide +kernel
theorem dL_kept_275 : decode cL_kept 275 = .ok (.iload 14, 2) := by decide +kernel
theorem dL_kept_277 : decode cL_kept 277 = .ok (.i2l, 1) := by decide +kernel
theorem dL_kept_278 : decode cL_kept 278 = .ok (.lcmp, 1) := by decide +kernel
theorem dL_kept_279 : decode cL_kept 279 = .ok (.ifCond .ne 98, 3) := by decide +kernel
theorem dL_kept_282 : decode cL_kept 282 = .ok (.aload_n 0, 1) := by decide +kernel
theorem dL_kept_283 : decode cL_kept 283 = .ok (.iload 11, 2) := by decide +kernel
theorem dL_kept_285 : decode cL_kept 285 = .ok (.iconst 5, 1) := by decide +kernel
theorem dL_kept_286 : decode cL_kept 286 = .ok (.invokestatic 114, 3) := by decide +kernel
theorem dL_kept_289 : decode cL_kept 289 = .ok (.iload 14, 2) := by decide +kernel
theorem dL_kept_291 : decode cL_kept 291 = .ok (.ifCond .ne 9, 3) := by decide +kernel
theorem dL_kept_294 : decode cL_kept 294 = .ok (.ldc2_w 178, 3) := by decide +kernel
theorem dL_kept_297 : decode cL_kept 297 = .ok (.goto 13, 3) := by decide +kernel
theorem dL_kept_300 : decode cL_kept 300 = .ok (.aload_n 0, 1) := by decide +kernel
theorem dL_kept_301 : decode cL_kept 301 = .ok (.iload 11, 2) := by decide +kernel
theorem dL_kept_303 : decode cL_kept 303 = .ok (.iload 14, 2) := by decide +kernel
theorem dL_kept_305 : decode cL_kept 305 = .ok (.iconst 1, 1) := by decide +kernel
theorem dL_kept_306 : decode cL_kept 306 = .ok (.isub, 1) := by decide +kernel
theorem dL_kept_307 : decode cL_kept 307 = .ok (.invokestatic 126, 3) := by decide +kernel
theorem dL_kept_310 : decode cL_kept 310 = .ok (.lcmp, 1) := by decide +kernel
theorem dL_kept_311 : decode cL_kept 311 = .ok (.ifCond .ne 66, 3) := by decide +kernel
theorem dL_kept_314 : decode cL_kept 314 = .ok (.aload_n 0, 1) := by decide +kernel
theorem dL_kept_315 : decode cL_kept 315 = .ok (.iload 11, 2) := by decide +kernel
theorem dL_kept_317 : decode cL_kept 317 = .ok (.iconst 4, 1) := by decide +kernel
theorem dL_kept_318 : decode cL_kept 318 = .ok (.invokestatic 114, 3) := by decide +kernel
theorem dL_kept_321 : decode cL_kept 321 = .ok (.lload 16, 2) := by decide +kernel
theorem dL_kept_323 : decode cL_kept 323 = .ok (.lcmp, 1) := by decide +kernel
theorem dL_kept_324 : decode cL_kept 324 = .ok (.ifCond .ne 53, 3) := by decide +kernel
theorem dL_kept_327 : decode cL_kept 327 = .ok (.aload_n 0, 1) := by decide +kernel
theorem dL_kept_328 : decode cL_kept 328 = .ok (.iload 11, 2) := by decide +kernel
theorem dL_kept_330 : decode cL_kept 330 = .ok (.iconst 2, 1) := by decide +kernel
theorem dL_kept_331 : decode cL_kept 331 = .ok (.invokestatic 114, 3) := by decide +kernel
theorem dL_kept_334 : decode cL_kept 334 = .ok (.iload 14, 2) := by decide +kernel
theorem dL_kept_336 : decode cL_kept 336 = .ok (.i2l, 1) := by decide +kernel
theorem dL_kept_337 : decode cL_kept 337 = .ok (.bipush 19, 2) := by decide +kernel
theorem dL_kept_339 : decode cL_kept 339 = .ok (.iload 14, 2) := by decide +kernel
theorem dL_kept_341 : decode cL_kept 341 = .ok (.imul, 1) := by decide +kernel
theorem dL_kept_342 : decode cL_kept 342 = .ok (.i2l, 1) := by decide +kernel
theorem dL_kept_343 : decode cL_kept 343 = .ok (.invokestatic 172, 3) := by decide +kernel
theorem dL_kept_346 : decode cL_kept 346 = .ok (.ifCond .eq 31, 3) := by decide +kernel
theorem dL_kept_349 : decode cL_kept 349 = .ok (.lload 20, 2) := by decide +kernel
theorem dL_kept_351 : decode cL_kept 351 = .ok (.lload 18, 2) := by decide +kernel
theorem dL_kept_353 : decode cL_kept 353 = .ok (.ldc2_w 182, 3) := by decide +kernel
theorem dL_kept_356 : decode cL_kept 356 = .ok (.lxor, 1) := by decide +kernel
theorem dL_kept_357 : decode cL_kept 357 = .ok (.land, 1) := by decide +kernel
theorem dL_kept_358 : decode cL_kept 358 = .ok (.lconst 0, 1) := by decide +kernel
theorem dL_kept_359 : decode cL_kept 359 = .ok (.lcmp, 1) := by decide +kernel
theorem dL_kept_360 : decode cL_kept 360 = .ok (.ifCond .ne 17, 3) := by decide +kernel
theorem dL_kept_363 : decode cL_kept 363 = .ok (.lload 18, 2) := by decide +kernel
theorem dL_kept_365 : decode cL_kept 365 = .ok (.lload 12, 2) := by decide +kernel
theorem dL_kept_367 : decode cL_kept 367 = .ok (.land, 1) := by decide +kernel
theorem dL_kept_368 : decode cL_kept 368 = .ok (.lconst 0, 1) := by decide +kernel
theorem dL_kept_369 : decode cL_kept 369 = .ok (.lcmp, 1) := by decide +kernel
theorem dL_kept_370 : decode cL_kept 370 = .ok (.ifCond .ne 7, 3) := by decide +kernel
theorem dL_kept_373 : decode cL_kept 373 = .ok (.iconst 1, 1) := by decide +kernel
theorem dL_kept_374 : decode cL_kept 374 = .ok (.goto 4, 3) := by decide +kernel
theorem dL_kept_377 : decode cL_kept 377 = .ok (.iconst 0, 1) := by decide +kernel
theorem dL_kept_378 : decode cL_kept 378 = .ok (.istore_n 3, 1) := by decide +kernel
theorem dL_kept_379 : decode cL_kept 379 = .ok (.iconst 0, 1) := by decide +kernel
theorem dL_kept_380 : decode cL_kept 380 = .ok (.istore 22, 2) := by decide +kernel
theorem dL_kept_382 : decode cL_kept 382 = .ok (.iload 22, 2) := by decide +kernel
theorem dL_kept_384 : decode cL_kept 384 = .ok (.iload_n 1, 1) := by decide +kernel
theorem dL_kept_385 : decode cL_kept 385 = .ok (.if_icmp .ge 63, 3) := by decide +kernel
theorem dL_kept_388 : decode cL_kept 388 = .ok (.iload_n 3, 1) := by decide +kernel
theorem dL_kept_389 : decode cL_kept 389 = .ok (.ifCond .eq 59, 3) := by decide +kernel
theorem dL_kept_392 : decode cL_kept 392 = .ok (.lload 18, 2) := by decide +kernel
theorem dL_kept_394 : decode cL_kept 394 = .ok (.iload 22, 2) := by decide +kernel
theorem dL_kept_396 : decode cL_kept 396 = .ok (.invokestatic 147, 3) := by decide +kernel
theorem dL_kept_399 : decode cL_kept 399 = .ok (.iload 15, 2) := by decide +kernel
theorem dL_kept_401 : decode cL_kept 401 = .ok (.ifCond .ne 31, 3) := by decide +kernel
theorem dL_kept_404 : decode cL_kept 404 = .ok (.lload 12, 2) := by decide +kernel
theorem dL_kept_406 : decode cL_kept 406 = .ok (.iload 22, 2) := by decide +kernel
theorem dL_kept_408 : decode cL_kept 408 = .ok (.invokestatic 147, 3) := by decide +kernel
theorem dL_kept_411 : decode cL_kept 411 = .ok (.ifCond .ne 21, 3) := by decide +kernel
theorem dL_kept_414 : decode cL_kept 414 = .ok (.aload_n 0, 1) := by decide +kernel
theorem dL_kept_415 : decode cL_kept 415 = .ok (.iload 22, 2) := by decide +kernel
theorem dL_kept_417 : decode cL_kept 417 = .ok (.lload 12, 2) := by decide +kernel
theorem dL_kept_419 : decode cL_kept 419 = .ok (.l2i, 1) := by decide +kernel
theorem dL_kept_420 : decode cL_kept 420 = .ok (.invokestatic 124, 3) := by decide +kernel
theorem dL_kept_423 : decode cL_kept 423 = .ok (.lconst 1, 1) := by decide +kernel
theorem dL_kept_424 : decode cL_kept 424 = .ok (.lcmp, 1) := by decide +kernel
theorem dL_kept_425 : decode cL_kept 425 = .ok (.ifCond .ne 7, 3) := by decide +kernel
theorem dL_kept_428 : decode cL_kept 428 = .ok (.iconst 1, 1) := by decide +kernel
theorem dL_kept_429 : decode cL_kept 429 = .ok (.goto 4, 3) := by decide +kernel
theorem dL_kept_432 : decode cL_kept 432 = .ok (.iconst 0, 1) := by decide +kernel
theorem dL_kept_433 : decode cL_kept 433 = .ok (.if_icmp .ne 7, 3) := by decide +kernel
theorem dL_kept_436 : decode cL_kept 436 = .ok (.iconst 1, 1) := by decide +kernel
theorem dL_kept_437 : decode cL_kept 437 = .ok (.goto 4, 3) := by decide +kernel
theorem dL_kept_440 : decode cL_kept 440 = .ok (.iconst 0, 1) := by decide +kernel
theorem dL_kept_441 : decode cL_kept 441 = .ok (.istore_n 3, 1) := by decide +kernel
theorem dL_kept_442 : decode cL_kept 442 = .ok (.iinc 22 1, 3) := by decide +kernel
theorem dL_kept_445 : decode cL_kept 445 = .ok (.goto (-63), 3) := by decide +kernel
theorem dL_kept_448 : decode cL_kept 448 = .ok (.iload 15, 2) := by decide +kernel
theorem dL_kept_450 : decode cL_kept 450 = .ok (.ifCond .ne 14, 3) := by decide +kernel
theorem dL_kept_453 : decode cL_kept 453 = .ok (.lload 20, 2) := by decide +kernel
theorem dL_kept_455 : decode cL_kept 455 = .ok (.lconst 0, 1) := by decide +kernel
theorem dL_kept_456 : decode cL_kept 456 = .ok (.lcmp, 1) := by decide +kernel
theorem dL_kept_457 : decode cL_kept 457 = .ok (.ifCond .eq 7, 3) := by decide +kernel
theorem dL_kept_460 : decode cL_kept 460 = .ok (.iconst 1, 1) := by decide +kernel
theorem dL_kept_461 : decode cL_kept 461 = .ok (.goto 4, 3) := by decide +kernel
theorem dL_kept_464 : decode cL_kept 464 = .ok (.iconst 0, 1) := by decide +kernel
theorem dL_kept_465 : decode cL_kept 465 = .ok (.istore 22, 2) := by decide +kernel
theorem dL_kept_467 : decode cL_kept 467 = .ok (.aload_n 0, 1) := by decide +kernel
theorem dL_kept_468 : decode cL_kept 468 = .ok (.iload 11, 2) := by decide +kernel
theorem dL_kept_470 : decode cL_kept 470 = .ok (.invokestatic 118, 3) := by decide +kernel
theorem dL_kept_473 : decode cL_kept 473 = .ok (.lstore 23, 2) := by decide +kernel
theorem dL_kept_475 : decode cL_kept 475 = .ok (.aload_n 0, 1) := by decide +kernel
theorem dL_kept_476 : decode cL_kept 476 = .ok (.iload 11, 2) := by decide +kernel
theorem dL_kept_478 : decode cL_kept 478 = .ok (.invokestatic 151, 3) := by decide +kernel
theorem dL_kept_481 : decode cL_kept 481 = .ok (.lstore 25, 2) := by decide +kernel
theorem dL_kept_483 : decode cL_kept 483 = .ok (.iload_n 3, 1) := by decide +kernel
theorem dL_kept_484 : decode cL_kept 484 = .ok (.ifCond .eq 269, 3) := by decide +kernel
theorem dL_kept_487 : decode cL_kept 487 = .ok (.lload 23, 2) := by decide +kernel
theorem dL_kept_489 : decode cL_kept 489 = .ok (.lconst 0, 1) := by decide +kernel
theorem dL_kept_490 : decode cL_kept 490 = .ok (.lcmp, 1) := by decide +kernel
theorem dL_kept_491 : decode cL_kept 491 = .ok (.ifCond .le 7, 3) := by decide +kernel
theorem dL_kept_494 : decode cL_kept 494 = .ok (.iconst 1, 1) := by decide +kernel
theorem dL_kept_495 : decode cL_kept 495 = .ok (.goto 4, 3) := by decide +kernel
theorem dL_kept_498 : decode cL_kept 498 = .ok (.iconst 0, 1) := by decide +kernel
theorem dL_kept_499 : decode cL_kept 499 = .ok (.iload 15, 2) := by decide +kernel
theorem dL_kept_501 : decode cL_kept 501 = .ok (.ifCond .ne 8, 3) := by decide +kernel
theorem dL_kept_504 : decode cL_kept 504 = .ok (.iload 22, 2) := by decide +kernel
theorem dL_kept_506 : decode cL_kept 506 = .ok (.ifCond .eq 7, 3) := by decide +kernel
theorem dL_kept_509 : decode cL_kept 509 = .ok (.iconst 1, 1) := by decide +kernel
theorem dL_kept_510 : decode cL_kept 510 = .ok (.goto 4, 3) := by decide +kernel
theorem dL_kept_513 : decode cL_kept 513 = .ok (.iconst 0, 1) := by decide +kernel
theorem dL_kept_514 : decode cL_kept 514 = .ok (.if_icmp .ne 239, 3) := by decide +kernel
theorem dL_kept_517 : decode cL_kept 517 = .ok (.lload 25, 2) := by decide +kernel
theorem dL_kept_519 : decode cL_kept 519 = .ok (.ldc2_w 178, 3) := by decide +kernel
theorem dL_kept_522 : decode cL_kept 522 = .ok (.lcmp, 1) := by decide +kernel
theorem dL_kept_523 : decode cL_kept 523 = .ok (.ifCond .ne 7, 3) := by decide +kernel
theorem dL_kept_526 : decode cL_kept 526 = .ok (.iconst 1, 1) := by decide +kernel
theorem dL_kept_527 : decode cL_kept 527 = .ok (.goto 4, 3) := by decide +kernel
theorem dL_kept_530 : decode cL_kept 530 = .ok (.iconst 0, 1) := by decide +kernel
theorem dL_kept_531 : decode cL_kept 531 = .ok (.iload 15, 2) := by decide +kernel
theorem dL_kept_533 : decode cL_kept 533 = .ok (.ifCond .ne 12, 3) := by decide +kernel
theorem dL_kept_536 : decode cL_kept 536 = .ok (.iload 22, 2) := by decide +kernel
theorem dL_kept_538 : decode cL_kept 538 = .ok (.ifCond .ne 7, 3) := by decide +kernel
theorem dL_kept_541 : decode cL_kept 541 = .ok (.iconst 1, 1) := by decide +kernel
theorem dL_kept_542 : decode cL_kept 542 = .ok (.goto 4, 3) := by decide +kernel
theorem dL_kept_545 : decode cL_kept 545 = .ok (.iconst 0, 1) := by decide +kernel
theorem dL_kept_546 : decode cL_kept 546 = .ok (.if_icmp .ne 207, 3) := by decide +kernel
theorem dL_kept_549 : decode cL_kept 549 = .ok (.iload 22, 2) := by decide +kernel
theorem dL_kept_551 : decode cL_kept 551 = .ok (.ifCond .eq 91, 3) := by decide +kernel
theorem dL_kept_554 : decode cL_kept 554 = .ok (.lload 25, 2) := by decide +kernel
theorem dL_kept_556 : decode cL_kept 556 = .ok (.iload_n 1, 1) := by decide +kernel
theorem dL_kept_557 : decode cL_kept 557 = .ok (.iconst 1, 1) := by decide +kernel
theorem dL_kept_558 : decode cL_kept 558 = .ok (.isub, 1) := by decide +kernel
theorem dL_kept_559 : decode cL_kept 559 = .ok (.invokestatic 147, 3) := by decide +kernel
theorem dL_kept_562 : decode cL_kept 562 = .ok (.ifCond .eq 191, 3) := by decide +kernel
theorem dL_kept_565 : decode cL_kept 565 = .ok (.lload 25, 2) := by decide +kernel
theorem dL_kept_567 : decode cL_kept 567 = .ok (.lload 12, 2) := by decide +kernel
theorem dL_kept_569 : decode cL_kept 569 = .ok (.land, 1) := by decide +kernel
theorem dL_kept_570 : decode cL_kept 570 = .ok (.lconst 0, 1) := by decide +kernel
theorem dL_kept_571 : decode cL_kept 571 = .ok (.lcmp, 1) := by decide +kernel
theorem dL_kept_572 : decode cL_kept 572 = .ok (.ifCond .ne 181, 3) := by decide +kernel
theorem dL_kept_575 : decode cL_kept 575 = .ok (.lload 25, 2) := by decide +kernel
theorem dL_kept_577 : decode cL_kept 577 = .ok (.invokestatic 184, 3) := by decide +kernel
theorem dL_kept_580 : decode cL_kept 580 = .ok (.i2l, 1) := by decide +kernel
theorem dL_kept_581 : decode cL_kept 581 = .ok (.aload_n 0, 1) := by decide +kernel
theorem dL_kept_582 : decode cL_kept 582 = .ok (.iload 11, 2) := by decide +kernel
theorem dL_kept_584 : decode cL_kept 584 = .ok (.iconst 0, 1) := by decide +kernel
theorem dL_kept_585 : decode cL_kept 585 = .ok (.invokestatic 141, 3) := by decide +kernel
theorem dL_kept_588 : decode cL_kept 588 = .ok (.lcmp, 1) := by decide +kernel
theorem dL_kept_589 : decode cL_kept 589 = .ok (.ifCond .gt 164, 3) := by decide +kernel
theorem dL_kept_592 : decode cL_kept 592 = .ok (.aload_n 0, 1) := by decide +kernel
theorem dL_kept_593 : decode cL_kept 593 = .ok (.iload 11, 2) := by decide +kernel
theorem dL_kept_595 : decode cL_kept 595 = .ok (.iconst 0, 1) := by decide +kernel
theorem dL_kept_596 : decode cL_kept 596 = .ok (.invokestatic 141, 3) := by decide +kernel
theorem dL_kept_599 : decode cL_kept 599 = .ok (.aload_n 0, 1) := by decide +kernel
theorem dL_kept_600 : decode cL_kept 600 = .ok (.iload 11, 2) := by decide +kernel
theorem dL_kept_602 : decode cL_kept 602 = .ok (.iconst 0, 1) := by decide +kernel
theorem dL_kept_603 : decode cL_kept 603 = .ok (.invokestatic 143, 3) := by decide +kernel
theorem dL_kept_606 : decode cL_kept 606 = .ok (.lcmp, 1) := by decide +kernel
theorem dL_kept_607 : decode cL_kept 607 = .ok (.ifCond .gt 146, 3) := by decide +kernel
theorem dL_kept_610 : decode cL_kept 610 = .ok (.lload 20, 2) := by decide +kernel
theorem dL_kept_612 : decode cL_kept 612 = .ok (.aload_n 0, 1) := by decide +kernel
theorem dL_kept_613 : decode cL_kept 613 = .ok (.iload 11, 2) := by decide +kernel
theorem dL_kept_615 : decode cL_kept 615 = .ok (.iconst 1, 1) := by decide +kernel
theorem dL_kept_616 : decode cL_kept 616 = .ok (.invokestatic 141, 3) := by decide +kernel
theorem dL_kept_619 : decode cL_kept 619 = .ok (.l2i, 1) := by decide +kernel
theorem dL_kept_620 : decode cL_kept 620 = .ok (.invokestatic 147, 3) := by decide +kernel
theorem dL_kept_623 : decode cL_kept 623 = .ok (.ifCond .eq 130, 3) := by decide +kernel
theorem dL_kept_626 : decode cL_kept 626 = .ok (.lload 20, 2) := by decide +kernel
theorem dL_kept_628 : decode cL_kept 628 = .ok (.aload_n 0, 1) := by decide +kernel
theorem dL_kept_629 : decode cL_kept 629 = .ok (.iload 11, 2) := by decide +kernel
theorem dL_kept_631 : decode cL_kept 631 = .ok (.iconst 1, 1) := by decide +kernel
theorem dL_kept_632 : decode cL_kept 632 = .ok (.invokestatic 143, 3) := by decide +kernel
theorem dL_kept_635 : decode cL_kept 635 = .ok (.l2i, 1) := by decide +kernel
theorem dL_kept_636 : decode cL_kept 636 = .ok (.invokestatic 147, 3) := by decide +kernel
theorem dL_kept_639 : decode cL_kept 639 = .ok (.ifCond .eq 114, 3) := by decide +kernel
theorem dL_kept_642 : decode cL_kept 642 = .ok (.iload 15, 2) := by decide +kernel
theorem dL_kept_644 : decode cL_kept 644 = .ok (.ifCond .eq 44, 3) := by decide +kernel
theorem dL_kept_647 : decode cL_kept 647 = .ok (.aload_n 0, 1) := by decide +kernel
theorem dL_kept_648 : decode cL_kept 648 = .ok (.iload 11, 2) := by decide +kernel
theorem dL_kept_650 : decode cL_kept 650 = .ok (.iconst 0, 1) := by decide +kernel
theorem dL_kept_651 : decode cL_kept 651 = .ok (.invokestatic 141, 3) := by decide +kernel
theorem dL_kept_654 : decode cL_kept 654 = .ok (.lconst 0, 1) := by decide +kernel
theorem dL_kept_655 : decode cL_kept 655 = .ok (.lcmp, 1) := by decide +kernel
theorem dL_kept_656 : decode cL_kept 656 = .ok (.ifCond .ne 97, 3) := by decide +kernel
theorem dL_kept_659 : decode cL_kept 659 = .ok (.aload_n 0, 1) := by decide +kernel
theorem dL_kept_660 : decode cL_kept 660 = .ok (.iload 11, 2) := by decide +kernel
theorem dL_kept_662 : decode cL_kept 662 = .ok (.iconst 0, 1) := by decide +kernel
theorem dL_kept_663 : decode cL_kept 663 = .ok (.invokestatic 143, 3) := by decide +kernel
theorem dL_kept_666 : decode cL_kept 666 = .ok (.lconst 0, 1) := by decide +kernel
theorem dL_kept_667 : decode cL_kept 667 = .ok (.lcmp, 1) := by decide +kernel
theorem dL_kept_668 : decode cL_kept 668 = .ok (.ifCond .ne 85, 3) := by decide +kernel
theorem dL_kept_671 : decode cL_kept 671 = .ok (.lload 23, 2) := by decide +kernel
theorem dL_kept_673 : decode cL_kept 673 = .ok (.lconst 1, 1) := by decide +kernel
theorem dL_kept_674 : decode cL_kept 674 = .ok (.lcmp, 1) := by decide +kernel
theorem dL_kept_675 : decode cL_kept 675 = .ok (.ifCond .ne 78, 3) := by decide +kernel
theorem dL_kept_678 : decode cL_kept 678 = .ok (.lload 25, 2) := by decide +kernel
theorem dL_kept_680 : decode cL_kept 680 = .ok (.lconst 0, 1) := by decide +kernel
theorem dL_kept_681 : decode cL_kept 681 = .ok (.lcmp, 1) := by decide +kernel
theorem dL_kept_682 : decode cL_kept 682 = .ok (.ifCond .ne 71, 3) := by decide +kernel
theorem dL_kept_685 : decode cL_kept 685 = .ok (.goto 64, 3) := by decide +kernel
theorem dL_kept_688 : decode cL_kept 688 = .ok (.iload 22, 2) := by decide +kernel
theorem dL_kept_690 : decode cL_kept 690 = .ok (.ifCond .ne 59, 3) := by decide +kernel
theorem dL_kept_693 : decode cL_kept 693 = .ok (.aload_n 0, 1) := by decide +kernel
theorem dL_kept_694 : decode cL_kept 694 = .ok (.iload 11, 2) := by decide +kernel
theorem dL_kept_696 : decode cL_kept 696 = .ok (.iconst 0, 1) := by decide +kernel
theorem dL_kept_697 : decode cL_kept 697 = .ok (.invokestatic 141, 3) := by decide +kernel
theorem dL_kept_700 : decode cL_kept 700 = .ok (.ldc2_w 178, 3) := by decide +kernel
theorem dL_kept_703 : decode cL_kept 703 = .ok (.lcmp, 1) := by decide +kernel
theorem dL_kept_704 : decode cL_kept 704 = .ok (.ifCond .ne 49, 3) := by decide +kernel
theorem dL_kept_707 : decode cL_kept 707 = .ok (.aload_n 0, 1) := by decide +kernel
theorem dL_kept_708 : decode cL_kept 708 = .ok (.iload 11, 2) := by decide +kernel
theorem dL_kept_710 : decode cL_kept 710 = .ok (.iconst 1, 1) := by decide +kernel
theorem dL_kept_711 : decode cL_kept 711 = .ok (.invokestatic 141, 3) := by decide +kernel
theorem dL_kept_714 : decode cL_kept 714 = .ok (.ldc2_w 178, 3) := by decide +kernel
theorem dL_kept_717 : decode cL_kept 717 = .ok (.lcmp, 1) := by decide +kernel
theorem dL_kept_718 : decode cL_kept 718 = .ok (.ifCond .ne 35, 3) := by decide +kernel
theorem dL_kept_721 : decode cL_kept 721 = .ok (.aload_n 0, 1) := by decide +kernel
theorem dL_kept_722 : decode cL_kept 722 = .ok (.iload 11, 2) := by decide +kernel
theorem dL_kept_724 : decode cL_kept 724 = .ok (.iconst 0, 1) := by decide +kernel
theorem dL_kept_725 : decode cL_kept 725 = .ok (.invokestatic 143, 3) := by decide +kernel
theorem dL_kept_728 : decode cL_kept 728 = .ok (.ldc2_w 178, 3) := by decide +kernel
theorem dL_kept_731 : decode cL_kept 731 = .ok (.lcmp, 1) := by decide +kernel
theorem dL_kept_732 : decode cL_kept 732 = .ok (.ifCond .ne 21, 3) := by decide +kernel
theorem dL_kept_735 : decode cL_kept 735 = .ok (.aload_n 0, 1) := by decide +kernel
theorem dL_kept_736 : decode cL_kept 736 = .ok (.iload 11, 2) := by decide +kernel
theorem dL_kept_738 : decode cL_kept 738 = .ok (.iconst 1, 1) := by decide +kernel
theorem dL_kept_739 : decode cL_kept 739 = .ok (.invokestatic 143, 3) := by decide +kernel
theorem dL_kept_742 : decode cL_kept 742 = .ok (.ldc2_w 178, 3) := by decide +kernel
theorem dL_kept_745 : decode cL_kept 745 = .ok (.lcmp, 1) := by decide +kernel
theorem dL_kept_746 : decode cL_kept 746 = .ok (.ifCond .ne 7, 3) := by decide +kernel
theorem dL_kept_749 : decode cL_kept 749 = .ok (.iconst 1, 1) := by decide +kernel
theorem dL_kept_750 : decode cL_kept 750 = .ok (.goto 4, 3) := by decide +kernel
theorem dL_kept_753 : decode cL_kept 753 = .ok (.iconst 0, 1) := by decide +kernel
theorem dL_kept_754 : decode cL_kept 754 = .ok (.istore_n 3, 1) := by decide +kernel
theorem dL_kept_755 : decode cL_kept 755 = .ok (.lload 4, 2) := by decide +kernel
theorem dL_kept_757 : decode cL_kept 757 = .ok (.lload 12, 2) := by decide +kernel
theorem dL_kept_759 : decode cL_kept 759 = .ok (.lor, 1) := by decide +kernel
theorem dL_kept_760 : decode cL_kept 760 = .ok (.lstore 4, 2) := by decide +kernel
theorem dL_kept_762 : decode cL_kept 762 = .ok (.lload 16, 2) := by decide +kernel
theorem dL_kept_764 : decode cL_kept 764 = .ok (.lload 6, 2) := by decide +kernel
theorem dL_kept_766 : decode cL_kept 766 = .ok (.lcmp, 1) := by decide +kernel
theorem dL_kept_767 : decode cL_kept 767 = .ok (.ifCond .le 8, 3) := by decide +kernel
theorem dL_kept_770 : decode cL_kept 770 = .ok (.lload 16, 2) := by decide +kernel
theorem dL_kept_772 : decode cL_kept 772 = .ok (.goto 5, 3) := by decide +kernel
theorem dL_kept_775 : decode cL_kept 775 = .ok (.lload 6, 2) := by decide +kernel
theorem dL_kept_777 : decode cL_kept 777 = .ok (.lstore 6, 2) := by decide +kernel
theorem dL_kept_779 : decode cL_kept 779 = .ok (.lload 8, 2) := by decide +kernel
theorem dL_kept_781 : decode cL_kept 781 = .ok (.aload_n 0, 1) := by decide +kernel
theorem dL_kept_782 : decode cL_kept 782 = .ok (.iload 11, 2) := by decide +kernel
theorem dL_kept_784 : decode cL_kept 784 = .ok (.iconst 3, 1) := by decide +kernel
theorem dL_kept_785 : decode cL_kept 785 = .ok (.invokestatic 114, 3) := by decide +kernel
theorem dL_kept_788 : decode cL_kept 788 = .ok (.ladd, 1) := by decide +kernel
theorem dL_kept_789 : decode cL_kept 789 = .ok (.lstore 8, 2) := by decide +kernel
theorem dL_kept_791 : decode cL_kept 791 = .ok (.iload 10, 2) := by decide +kernel
theorem dL_kept_793 : decode cL_kept 793 = .ok (.iload 15, 2) := by decide +kernel
theorem dL_kept_795 : decode cL_kept 795 = .ok (.ifCond .eq 7, 3) := by decide +kernel
theorem dL_kept_798 : decode cL_kept 798 = .ok (.iconst 1, 1) := by decide +kernel
theorem dL_kept_799 : decode cL_kept 799 = .ok (.goto 4, 3) := by decide +kernel
theorem dL_kept_802 : decode cL_kept 802 = .ok (.iconst 0, 1) := by decide +kernel
theorem dL_kept_803 : decode cL_kept 803 = .ok (.iadd, 1) := by decide +kernel
theorem dL_kept_804 : decode cL_kept 804 = .ok (.istore 10, 2) := by decide +kernel
theorem dL_kept_806 : decode cL_kept 806 = .ok (.iinc 11 1, 3) := by decide +kernel
theorem dL_kept_809 : decode cL_kept 809 = .ok (.goto (-748), 3) := by decide +kernel
theorem dL_kept_812 : decode cL_kept 812 = .ok (.aload_n 0, 1) := by decide +kernel
theorem dL_kept_813 : decode cL_kept 813 = .ok (.invokevirtual 188, 3) := by decide +kernel
theorem dL_kept_816 : decode cL_kept 816 = .ok (.istore 11, 2) := by decide +kernel
theorem dL_kept_818 : decode cL_kept 818 = .ok (.iload_n 3, 1) := by decide +kernel
theorem dL_kept_819 : decode cL_kept 819 = .ok (.ifCond .eq 96, 3) := by decide +kernel
theorem dL_kept_822 : decode cL_kept 822 = .ok (.aload_n 0, 1) := by decide +kernel
theorem dL_kept_823 : decode cL_kept 823 = .ok (.iconst 2, 1) := by decide +kernel
theorem dL_kept_824 : decode cL_kept 824 = .ok (.invokestatic 106, 3) := by decide +kernel
theorem dL_kept_827 : decode cL_kept 827 = .ok (.iload 10, 2) := by decide +kernel
theorem dL_kept_829 : decode cL_kept 829 = .ok (.i2l, 1) := by decide +kernel
theorem dL_kept_830 : decode cL_kept 830 = .ok (.lcmp, 1) := by decide +kernel
theorem dL_kept_831 : decode cL_kept 831 = .ok (.ifCond .ne 84, 3) := by decide +kernel
theorem dL_kept_834 : decode cL_kept 834 = .ok (.aload_n 0, 1) := by decide +kernel
theorem dL_kept_835 : decode cL_kept 835 = .ok (.iconst 3, 1) := by decide +kernel
theorem dL_kept_836 : decode cL_kept 836 = .ok (.invokestatic 106, 3) := by decide +kernel
theorem dL_kept_839 : decode cL_kept 839 = .ok (.lload 6, 2) := by decide +kernel
theorem dL_kept_841 : decode cL_kept 841 = .ok (.lcmp, 1) := by decide +kernel
theorem dL_kept_842 : decode cL_kept 842 = .ok (.ifCond .ne 73, 3) := by decide +kernel
theorem dL_kept_845 : decode cL_kept 845 = .ok (.aload_n 0, 1) := by decide +kernel
theorem dL_kept_846 : decode cL_kept 846 = .ok (.iconst 4, 1) := by decide +kernel
theorem dL_kept_847 : decode cL_kept 847 = .ok (.invokestatic 106, 3) := by decide +kernel
theorem dL_kept_850 : decode cL_kept 850 = .ok (.lload 4, 2) := by decide +kernel
theorem dL_kept_852 : decode cL_kept 852 = .ok (.invokestatic 184, 3) := by decide +kernel
theorem dL_kept_855 : decode cL_kept 855 = .ok (.i2l, 1) := by decide +kernel
theorem dL_kept_856 : decode cL_kept 856 = .ok (.lcmp, 1) := by decide +kernel
theorem dL_kept_857 : decode cL_kept 857 = .ok (.ifCond .ne 58, 3) := by decide +kernel
theorem dL_kept_860 : decode cL_kept 860 = .ok (.aload_n 0, 1) := by decide +kernel
theorem dL_kept_861 : decode cL_kept 861 = .ok (.iconst 5, 1) := by decide +kernel
theorem dL_kept_862 : decode cL_kept 862 = .ok (.invokestatic 106, 3) := by decide +kernel
theorem dL_kept_865 : decode cL_kept 865 = .ok (.lload 8, 2) := by decide +kernel
theorem dL_kept_867 : decode cL_kept 867 = .ok (.lcmp, 1) := by decide +kernel
theorem dL_kept_868 : decode cL_kept 868 = .ok (.ifCond .ne 47, 3) := by decide +kernel
theorem dL_kept_871 : decode cL_kept 871 = .ok (.aload_n 0, 1) := by decide +kernel
theorem dL_kept_872 : decode cL_kept 872 = .ok (.invokevirtual 191, 3) := by decide +kernel
theorem dL_kept_875 : decode cL_kept 875 = .ok (.ifCond .lt 40, 3) := by decide +kernel
theorem dL_kept_878 : decode cL_kept 878 = .ok (.aload_n 0, 1) := by decide +kernel
theorem dL_kept_879 : decode cL_kept 879 = .ok (.invokevirtual 191, 3) := by decide +kernel
theorem dL_kept_882 : decode cL_kept 882 = .ok (.ifCond .gt 10, 3) := by decide +kernel
theorem dL_kept_885 : decode cL_kept 885 = .ok (.iload 11, 2) := by decide +kernel
theorem dL_kept_887 : decode cL_kept 887 = .ok (.bipush (-9), 2) := by decide +kernel
theorem dL_kept_889 : decode cL_kept 889 = .ok (.if_icmp .ne 26, 3) := by decide +kernel
theorem dL_kept_892 : decode cL_kept 892 = .ok (.aload_n 0, 1) := by decide +kernel
theorem dL_kept_893 : decode cL_kept 893 = .ok (.iconst 0, 1) := by decide +kernel
theorem dL_kept_894 : decode cL_kept 894 = .ok (.iconst 3, 1) := by decide +kernel
theorem dL_kept_895 : decode cL_kept 895 = .ok (.invokestatic 111, 3) := by decide +kernel
theorem dL_kept_898 : decode cL_kept 898 = .ok (.lconst 0, 1) := by decide +kernel
theorem dL_kept_899 : decode cL_kept 899 = .ok (.iconst 1, 1) := by decide +kernel
theorem dL_kept_900 : decode cL_kept 900 = .ok (.iload_n 1, 1) := by decide +kernel
theorem dL_kept_901 : decode cL_kept 901 = .ok (.iconst 1, 1) := by decide +kernel
theorem dL_kept_902 : decode cL_kept 902 = .ok (.isub, 1) := by decide +kernel
theorem dL_kept_903 : decode cL_kept 903 = .ok (.ishl, 1) := by decide +kernel
theorem dL_kept_904 : decode cL_kept 904 = .ok (.i2l, 1) := by decide +kernel
theorem dL_kept_905 : decode cL_kept 905 = .ok (.invokestatic 172, 3) := by decide +kernel
theorem dL_kept_908 : decode cL_kept 908 = .ok (.ifCond .eq 7, 3) := by decide +kernel
theorem dL_kept_911 : decode cL_kept 911 = .ok (.iconst 1, 1) := by decide +kernel
theorem dL_kept_912 : decode cL_kept 912 = .ok (.goto 4, 3) := by decide +kernel
theorem dL_kept_915 : decode cL_kept 915 = .ok (.iconst 0, 1) := by decide +kernel
theorem dL_kept_916 : decode cL_kept 916 = .ok (.ireturn, 1) := by decide +kernel
theorem dL_follows_0 : decode cL_follows 0 = .ok (.aload_n 0, 1) := by decide +kernel
theorem dL_follows_1 : decode cL_follows 1 = .ok (.invokestatic 120, 3) := by decide +kernel
theorem dL_follows_4 : decode cL_follows 4 = .ok (.lstore_n 2, 1) := by decide +kernel
theorem dL_follows_5 : decode cL_follows 5 = .ok (.aload_n 0, 1) := by decide +kernel
theorem dL_follows_6 : decode cL_follows 6 = .ok (.iconst 0, 1) := by decide +kernel
theorem dL_follows_7 : decode cL_follows 7 = .ok (.invokestatic 106, 3) := by decide +kernel
theorem dL_follows_10 : decode cL_follows 10 = .ok (.l2i, 1) := by decide +kernel
theorem dL_follows_11 : decode cL_follows 11 = .ok (.istore 4, 2) := by decide +kernel
theorem dL_follows_13 : decode cL_follows 13 = .ok (.aload_n 0, 1) := by decide +kernel
theorem dL_follows_14 : decode cL_follows 14 = .ok (.iconst 1, 1) := by decide +kernel
theorem dL_follows_15 : decode cL_follows 15 = .ok (.invokestatic 106, 3) := by decide +kernel
theorem dL_follows_18 : decode cL_follows 18 = .ok (.l2i, 1) := by decide +kernel
theorem dL_follows_19 : decode cL_follows 19 = .ok (.istore 5, 2) := by decide +kernel
theorem dL_follows_21 : decode cL_follows 21 = .ok (.aload_n 0, 1) := by decide +kernel
theorem dL_follows_22 : decode cL_follows 22 = .ok (.iconst 1, 1) := by decide +kernel
theorem dL_follows_23 : decode cL_follows 23 = .ok (.invokestatic 162, 3) := by decide +kernel
theorem dL_follows_26 : decode cL_follows 26 = .ok (.iload 5, 2) := by decide +kernel
theorem dL_follows_28 : decode cL_follows 28 = .ok (.i2l, 1) := by decide +kernel
theorem dL_follows_29 : decode cL_follows 29 = .ok (.lcmp, 1) := by decide +kernel
theorem dL_follows_30 : decode cL_follows 30 = .ok (.ifCond .ne 36, 3) := by decide +kernel
theorem dL_follows_33 : decode cL_follows 33 = .ok (.aload_n 0, 1) := by decide +kernel
theorem dL_follows_34 : decode cL_follows 34 = .ok (.iload_n 1, 1) := by decide +kernel
theorem dL_follows_35 : decode cL_follows 35 = .ok (.i2l, 1) := by decide +kernel
theorem dL_follows_36 : decode cL_follows 36 = .ok (.bipush 9, 2) := by decide +kernel
theorem dL_follows_38 : decode cL_follows 38 = .ok (.invokestatic 159, 3) := by decide +kernel
theorem dL_follows_41 : decode cL_follows 41 = .ok (.aload_n 0, 1) := by decide +kernel
theorem dL_follows_42 : decode cL_follows 42 = .ok (.iload_n 1, 1) := by decide +kernel
theorem dL_follows_43 : decode cL_follows 43 = .ok (.i2l, 1) := by decide +kernel
theorem dL_follows_44 : decode cL_follows 44 = .ok (.bipush 9, 2) := by decide +kernel
theorem dL_follows_46 : decode cL_follows 46 = .ok (.invokestatic 159, 3) := by decide +kernel
theorem dL_follows_49 : decode cL_follows 49 = .ok (.lcmp, 1) := by decide +kernel
theorem dL_follows_50 : decode cL_follows 50 = .ok (.ifCond .ne 16, 3) := by decide +kernel
theorem dL_follows_53 : decode cL_follows 53 = .ok (.aload_n 0, 1) := by decide +kernel
theorem dL_follows_54 : decode cL_follows 54 = .ok (.invokestatic 120, 3) := by decide +kernel
theorem dL_follows_57 : decode cL_follows 57 = .ok (.lload_n 2, 1) := by decide +kernel
theorem dL_follows_58 : decode cL_follows 58 = .ok (.lcmp, 1) := by decide +kernel
theorem dL_follows_59 : decode cL_follows 59 = .ok (.ifCond .ne 7, 3) := by decide +kernel
theorem dL_follows_62 : decode cL_follows 62 = .ok (.iconst 1, 1) := by decide +kernel
theorem dL_follows_63 : decode cL_follows 63 = .ok (.goto 4, 3) := by decide +kernel
theorem dL_follows_66 : decode cL_follows 66 = .ok (.iconst 0, 1) := by decide +kernel
theorem dL_follows_67 : decode cL_follows 67 = .ok (.istore 6, 2) := by decide +kernel
theorem dL_follows_69 : decode cL_follows 69 = .ok (.aload_n 0, 1) := by decide +kernel
theorem dL_follows_70 : decode cL_follows 70 = .ok (.invokevirtual 188, 3) := by decide +kernel
theorem dL_follows_73 : decode cL_follows 73 = .ok (.istore 7, 2) := by decide +kernel
theorem dL_follows_75 : decode cL_follows 75 = .ok (.iload 6, 2) := by decide +kernel
theorem dL_follows_77 : decode cL_follows 77 = .ok (.ifCond .eq 50, 3) := by decide +kernel
theorem dL_follows_80 : decode cL_follows 80 = .ok (.iload 7, 2) := by decide +kernel
theorem dL_follows_82 : decode cL_follows 82 = .ok (.bipush (-9), 2) := by decide +kernel
theorem dL_follows_84 : decode cL_follows 84 = .ok (.if_icmp .eq 39, 3) := by decide +kernel
theorem dL_follows_87 : decode cL_follows 87 = .ok (.aload_n 0, 1) := by decide +kernel
theorem dL_follows_88 : decode cL_follows 88 = .ok (.iload 7, 2) := by decide +kernel
theorem dL_follows_90 : decode cL_follows 90 = .ok (.invokestatic 137, 3) := by decide +kernel
theorem dL_follows_93 : decode cL_follows 93 = .ok (.lconst 0, 1) := by decide +kernel
theorem dL_follows_94 : decode cL_follows 94 = .ok (.lcmp, 1) := by decide +kernel
theorem dL_follows_95 : decode cL_follows 95 = .ok (.ifCond .lt 32, 3) := by decide +kernel
theorem dL_follows_98 : decode cL_follows 98 = .ok (.aload_n 0, 1) := by decide +kernel
theorem dL_follows_99 : decode cL_follows 99 = .ok (.invokevirtual 191, 3) := by decide +kernel
theorem dL_follows_102 : decode cL_follows 102 = .ok (.ifCond .ne 25, 3) := by decide +kernel
theorem dL_follows_105 : decode cL_follows 105 = .ok (.aload_n 0, 1) := by decide +kernel
theorem dL_follows_106 : decode cL_follows 106 = .ok (.invokestatic 194, 3) := by decide +kernel
theorem dL_follows_109 : decode cL_follows 109 = .ok (.lconst 0, 1) := by decide +kernel
theorem dL_follows_110 : decode cL_follows 110 = .ok (.lcmp, 1) := by decide +kernel
theorem dL_follows_111 : decode cL_follows 111 = .ok (.ifCond .lt 16, 3) := by decide +kernel
theorem dL_follows_114 : decode cL_follows 114 = .ok (.aload_n 0, 1) := by decide +kernel
theorem dL_follows_115 : decode cL_follows 115 = .ok (.invokestatic 120, 3) := by decide +kernel
theorem dL_follows_118 : decode cL_follows 118 = .ok (.lload_n 2, 1) := by decide +kernel
theorem dL_follows_119 : decode cL_follows 119 = .ok (.lcmp, 1) := by decide +kernel
theorem dL_follows_120 : decode cL_follows 120 = .ok (.ifCond .ne 7, 3) := by decide +kernel
theorem dL_follows_123 : decode cL_follows 123 = .ok (.iconst 1, 1) := by decide +kernel
theorem dL_follows_124 : decode cL_follows 124 = .ok (.goto 4, 3) := by decide +kernel
theorem dL_follows_127 : decode cL_follows 127 = .ok (.iconst 0, 1) := by decide +kernel
theorem dL_follows_128 : decode cL_follows 128 = .ok (.istore 6, 2) := by decide +kernel
theorem dL_follows_130 : decode cL_follows 130 = .ok (.iload 5, 2) := by decide +kernel
theorem dL_follows_132 : decode cL_follows 132 = .ok (.ifCond .le 681, 3) := by decide +kernel
theorem dL_follows_135 : decode cL_follows 135 = .ok (.iload 6, 2) := by decide +kernel
theorem dL_follows_137 : decode cL_follows 137 = .ok (.ifCond .eq 676, 3) := by decide +kernel
theorem dL_follows_140 : decode cL_follows 140 = .ok (.iload_n 1, 1) := by decide +kernel
theorem dL_follows_141 : decode cL_follows 141 = .ok (.iload 5, 2) := by decide +kernel
theorem dL_follows_143 : decode cL_follows 143 = .ok (.irem, 1) := by decide +kernel
theorem dL_follows_144 : decode cL_follows 144 = .ok (.istore 8, 2) := by decide +kernel
theorem dL_follows_146 : decode cL_follows 146 = .ok (.aload_n 0, 1) := by decide +kernel
theorem dL_follows_147 : decode cL_follows 147 = .ok (.iload 8, 2) := by decide +kernel
theorem dL_follows_149 : decode cL_follows 149 = .ok (.invokestatic 116, 3) := by decide +kernel
theorem dL_follows_152 : decode cL_follows 152 = .ok (.lstore 9, 2) := by decide +kernel
theorem dL_follows_154 : decode cL_follows 154 = .ok (.aload_n 0, 1) := by decide +kernel
theorem dL_follows_155 : decode cL_follows 155 = .ok (.iload 8, 2) := by decide +kernel
theorem dL_follows_157 : decode cL_follows 157 = .ok (.invokestatic 145, 3) := by decide +kernel
theorem dL_follows_160 : decode cL_follows 160 = .ok (.lstore 11, 2) := by decide +kernel
theorem dL_follows_162 : decode cL_follows 162 = .ok (.aload_n 0, 1) := by decide +kernel
theorem dL_follows_163 : decode cL_follows 163 = .ok (.iload 8, 2) := by decide +kernel
theorem dL_follows_165 : decode cL_follows 165 = .ok (.invokestatic 118, 3) := by decide +kernel
theorem dL_follows_168 : decode cL_follows 168 = .ok (.lstore 13, 2) := by decide +kernel
theorem dL_follows_170 : decode cL_follows 170 = .ok (.aload_n 0, 1) := by decide +kernel
theorem dL_follows_171 : decode cL_follows 171 = .ok (.iload 8, 2) := by decide +kernel
theorem dL_follows_173 : decode cL_follows 173 = .ok (.iconst 0, 1) := by decide +kernel
theorem dL_follows_174 : decode cL_follows 174 = .ok (.invokestatic 141, 3) := by decide +kernel
theorem dL_follows_177 : decode cL_follows 177 = .ok (.lstore 15, 2) := by decide +kernel
theorem dL_follows_179 : decode cL_follows 179 = .ok (.aload_n 0, 1) := by decide +kernel
theorem dL_follows_180 : decode cL_follows 180 = .ok (.iload 8, 2) := by decide +kernel
theorem dL_follows_182 : decode cL_follows 182 = .ok (.iconst 0, 1) := by decide +kernel
theorem dL_follows_183 : decode cL_follows 183 = .ok (.invokestatic 143, 3) := by decide +kernel
theorem dL_follows_186 : decode cL_follows 186 = .ok (.lstore 17, 2) := by decide +kernel
theorem dL_follows_188 : decode cL_follows 188 = .ok (.aload_n 0, 1) := by decide +kernel
theorem dL_follows_189 : decode cL_follows 189 = .ok (.iload 8, 2) := by decide +kernel
theorem dL_follows_191 : decode cL_follows 191 = .ok (.iconst 1, 1) := by decide +kernel
theorem dL_follows_192 : decode cL_follows 192 = .ok (.invokestatic 141, 3) := by decide +kernel
theorem dL_follows_195 : decode cL_follows 195 = .ok (.lstore 19, 2) := by decide +kernel
theorem dL_follows_197 : decode cL_follows 197 = .ok (.aload_n 0, 1) := by decide +kernel
theorem dL_follows_198 : decode cL_follows 198 = .ok (.iload 8, 2) := by decide +kernel
theorem dL_follows_200 : decode cL_follows 200 = .ok (.iconst 1, 1) := by decide +kernel
theorem dL_follows_201 : decode cL_follows 201 = .ok (.invokestatic 143, 3) := by decide +kernel
theorem dL_follows_204 : decode cL_follows 204 = .ok (.lstore 21, 2) := by decide +kernel
theorem dL_follows_206 : decode cL_follows 206 = .ok (.aload_n 0, 1) := by decide +kernel
theorem dL_follows_207 : decode cL_follows 207 = .ok (.iload 8, 2) := by decide +kernel
theorem dL_follows_209 : decode cL_follows 209 = .ok (.iconst 2, 1) := by decide +kernel
theorem dL_follows_210 : decode cL_follows 210 = .ok (.invokestatic 114, 3) := by decide +kernel
theorem dL_follows_213 : decode cL_follows 213 = .ok (.lstore 23, 2) := by decide +kernel
theorem dL_follows_215 : decode cL_follows 215 = .ok (.lconst 0, 1) := by decide +kernel
theorem dL_follows_216 : decode cL_follows 216 = .ok (.lstore 25, 2) := by decide +kernel
theorem dL_follows_218 : decode cL_follows 218 = .ok (.iconst 0, 1) := by decide +kernel
theorem dL_follows_219 : decode cL_follows 219 = .ok (.istore 27, 2) := by decide +kernel
theorem dL_follows_221 : decode cL_follows 221 = .ok (.iload 27, 2) := by decide +kernel
theorem dL_follows_223 : decode cL_follows 223 = .ok (.iload 4, 2) := by decide +kernel
theorem dL_follows_225 : decode cL_follows 225 = .ok (.if_icmp .ge 267, 3) := by decide +kernel
theorem dL_follows_228 : decode cL_follows 228 = .ok (.iload 6, 2) := by decide +kernel
theorem dL_follows_230 : decode cL_follows 230 = .ok (.ifCond .eq 262, 3) := by decide +kernel
theorem dL_follows_233 : decode cL_follows 233 = .ok (.lload 9, 2) := by decide +kernel
theorem dL_follows_235 : decode cL_follows 235 = .ok (.iload 27, 2) := by decide +kernel
theorem dL_follows_237 : decode cL_follows 237 = .ok (.invokestatic 147, 3) := by decide +kernel
theorem dL_follows_240 : decode cL_follows 240 = .ok (.ifCond .eq 246, 3) := by decide +kernel
theorem dL_follows_243 : decode cL_follows 243 = .ok (.aload_n 0, 1) := by decide +kernel
theorem dL_follows_244 : decode cL_follows 244 = .ok (.iload 8, 2) := by decide +kernel
theorem dL_follows_246 : decode cL_follows 246 = .ok (.iload 27, 2) := by decide +kernel
theorem dL_follows_248 : decode cL_follows 248 = .ok (.invokestatic 128, 3) := by decide +kernel
theorem dL_follows_251 : decode cL_follows 251 = .ok (.lstore 28, 2) := by decide +kernel
theorem dL_follows_253 : decode cL_follows 253 = .ok (.lload 28, 2) := by decide +kernel
theorem dL_follows_255 : decode cL_follows 255 = .ok (.lload 23, 2) := by decide +kernel
theorem dL_follows_257 : decode cL_follows 257 = .ok (.lsub, 1) := by decide +kernel
theorem dL_follows_258 : decode cL_follows 258 = .ok (.lstore 30, 2) := by decide +kernel
theorem dL_follows_260 : decode cL_follows 260 = .ok (.lload 25, 2) := by decide +kernel
theorem dL_follows_262 : decode cL_follows 262 = .ok (.aload_n 0, 1) := by decide +kernel
theorem dL_follows_263 : decode cL_follows 263 = .ok (.iload 8, 2) := by decide +kernel
theorem dL_follows_265 : decode cL_follows 265 = .ok (.invokestatic 118, 3) := by decide +kernel
theorem dL_follows_268 : decode cL_follows 268 = .ok (.ladd, 1) := by decide +kernel
theorem dL_follows_269 : decode cL_follows 269 = .ok (.lstore 25, 2) := by decide +kernel
theorem dL_follows_271 : decode cL_follows 271 = .ok (.lload 30, 2) := by decide +kernel
theorem dL_follows_273 : decode cL_follows 273 = .ok (.lconst 1, 1) := by decide +kernel
theorem dL_follows_274 : decode cL_follows 274 = .ok (.lcmp, 1) := by decide +kernel
theorem dL_follows_275 : decode cL_follows 275 = .ok (.ifCond .lt 208, 3) := by decide +kernel
theorem dL_follows_278 : decode cL_follows 278 = .ok (.aload_n 0, 1) := by decide +kernel
theorem dL_follows_279 : decode cL_follows 279 = .ok (.iload 8, 2) := by decide +kernel
theorem dL_follows_281 : decode cL_follows 281 = .ok (.iconst 2, 1) := by decide +kernel
theorem dL_follows_282 : decode cL_follows 282 = .ok (.invokestatic 114, 3) := by decide +kernel
theorem dL_follows_285 : decode cL_follows 285 = .ok (.lload 28, 2) := by decide +kernel
theorem dL_follows_287 : decode cL_follows 287 = .ok (.lcmp, 1) := by decide +kernel
theorem dL_follows_288 : decode cL_follows 288 = .ok (.ifCond .ne 195, 3) := by decide +kernel
theorem dL_follows_291 : decode cL_follows 291 = .ok (.aload_n 0, 1) := by decide +kernel
theorem dL_follows_292 : decode cL_follows 292 = .ok (.iload 8, 2) := by decide +kernel
theorem dL_follows_294 : decode cL_follows 294 = .ok (.iconst 5, 1) := by decide +kernel
theorem dL_follows_295 : decode cL_follows 295 = .ok (.invokestatic 114, 3) := by decide +kernel
theorem dL_follows_298 : decode cL_follows 298 = .ok (.iload 27, 2) := by decide +kernel
theorem dL_follows_300 : decode cL_follows 300 = .ok (.i2l, 1) := by decide +kernel
theorem dL_follows_301 : decode cL_follows 301 = .ok (.lcmp, 1) := by decide +kernel
theorem dL_follows_302 : decode cL_follows 302 = .ok (.ifCond .ne 181, 3) := by decide +kernel
theorem dL_follows_305 : decode cL_follows 305 = .ok (.aload_n 0, 1) := by decide +kernel
theorem dL_follows_306 : decode cL_follows 306 = .ok (.iload 8, 2) := by decide +kernel
theorem dL_follows_308 : decode cL_follows 308 = .ok (.invokestatic 118, 3) := by decide +kernel
theorem dL_follows_311 : decode cL_follows 311 = .ok (.lconst 0, 1) := by decide +kernel
theorem dL_follows_312 : decode cL_follows 312 = .ok (.lcmp, 1) := by decide +kernel
theorem dL_follows_313 : decode cL_follows 313 = .ok (.ifCond .le 7, 3) := by decide +kernel
theorem dL_follows_316 : decode cL_follows 316 = .ok (.iconst 1, 1) := by decide +kernel
theorem dL_follows_317 : decode cL_follows 317 = .ok (.goto 4, 3) := by decide +kernel
theorem dL_follows_320 : decode cL_follows 320 = .ok (.iconst 0, 1) := by decide +kernel
theorem dL_follows_321 : decode cL_follows 321 = .ok (.lload 11, 2) := by decide +kernel
theorem dL_follows_323 : decode cL_follows 323 = .ok (.iload 27, 2) := by decide +kernel
theorem dL_follows_325 : decode cL_follows 325 = .ok (.invokestatic 147, 3) := by decide +kernel
theorem dL_follows_328 : decode cL_follows 328 = .ok (.if_icmp .ne 155, 3) := by decide +kernel
theorem dL_follows_331 : decode cL_follows 331 = .ok (.iload 27, 2) := by decide +kernel
theorem dL_follows_333 : decode cL_follows 333 = .ok (.i2l, 1) := by decide +kernel
theorem dL_follows_334 : decode cL_follows 334 = .ok (.lload 19, 2) := by decide +kernel
theorem dL_follows_336 : decode cL_follows 336 = .ok (.lcmp, 1) := by decide +kernel
theorem dL_follows_337 : decode cL_follows 337 = .ok (.ifCond .ne 18, 3) := by decide +kernel
theorem dL_follows_340 : decode cL_follows 340 = .ok (.aload_n 0, 1) := by decide +kernel
theorem dL_follows_341 : decode cL_follows 341 = .ok (.iload 8, 2) := by decide +kernel
theorem dL_follows_343 : decode cL_follows 343 = .ok (.iconst 0, 1) := by decide +kernel
theorem dL_follows_344 : decode cL_follows 344 = .ok (.invokestatic 141, 3) := by decide +kernel
theorem dL_follows_347 : decode cL_follows 347 = .ok (.lload 15, 2) := by decide +kernel
theorem dL_follows_349 : decode cL_follows 349 = .ok (.lconst 1, 1) := by decide +kernel
theorem dL_follows_350 : decode cL_follows 350 = .ok (.lsub, 1) := by decide +kernel
theorem dL_follows_351 : decode cL_follows 351 = .ok (.lcmp, 1) := by decide +kernel
theorem dL_follows_352 : decode cL_follows 352 = .ok (.ifCond .ne 131, 3) := by decide +kernel
theorem dL_follows_355 : decode cL_follows 355 = .ok (.iload 27, 2) := by decide +kernel
theorem dL_follows_357 : decode cL_follows 357 = .ok (.i2l, 1) := by decide +kernel
theorem dL_follows_358 : decode cL_follows 358 = .ok (.lload 21, 2) := by decide +kernel
theorem dL_follows_360 : decode cL_follows 360 = .ok (.lcmp, 1) := by decide +kernel
theorem dL_follows_361 : decode cL_follows 361 = .ok (.ifCond .ne 19, 3) := by decide +kernel
theorem dL_follows_364 : decode cL_follows 364 = .ok (.aload_n 0, 1) := by decide +kernel
theorem dL_follows_365 : decode cL_follows 365 = .ok (.iload 8, 2) := by decide +kernel
theorem dL_follows_367 : decode cL_follows 367 = .ok (.iconst 0, 1) := by decide +kernel
theorem dL_follows_368 : decode cL_follows 368 = .ok (.invokestatic 143, 3) := by decide +kernel
theorem dL_follows_371 : decode cL_follows 371 = .ok (.lload 17, 2) := by decide +kernel
theorem dL_follows_373 : decode cL_follows 373 = .ok (.lload 30, 2) := by decide +kernel
theorem dL_follows_375 : decode cL_follows 375 = .ok (.lsub, 1) := by decide +kernel
theorem dL_follows_376 : decode cL_follows 376 = .ok (.lcmp, 1) := by decide +kernel
theorem dL_follows_377 : decode cL_follows 377 = .ok (.ifCond .ne 106, 3) := by decide +kernel
theorem dL_follows_380 : decode cL_follows 380 = .ok (.lload 11, 2) := by decide +kernel
theorem dL_follows_382 : decode cL_follows 382 = .ok (.iload 27, 2) := by decide +kernel
theorem dL_follows_384 : decode cL_follows 384 = .ok (.invokestatic 147, 3) := by decide +kernel
theorem dL_follows_387 : decode cL_follows 387 = .ok (.ifCond .eq 83, 3) := by decide +kernel
theorem dL_follows_390 : decode cL_follows 390 = .ok (.aload_n 0, 1) := by decide +kernel
theorem dL_follows_391 : decode cL_follows 391 = .ok (.iload 8, 2) := by decide +kernel
theorem dL_follows_393 : decode cL_follows 393 = .ok (.iconst 0, 1) := by decide +kernel
theorem dL_follows_394 : decode cL_follows 394 = .ok (.invokestatic 141, 3) := by decide +kernel
theorem dL_follows_397 : decode cL_follows 397 = .ok (.lload 15, 2) := by decide +kernel
theorem dL_follows_399 : decode cL_follows 399 = .ok (.lconst 1, 1) := by decide +kernel
theorem dL_follows_400 : decode cL_follows 400 = .ok (.lsub, 1) := by decide +kernel
theorem dL_follows_401 : decode cL_follows 401 = .ok (.lcmp, 1) := by decide +kernel
theorem dL_follows_402 : decode cL_follows 402 = .ok (.ifCond .lt 81, 3) := by decide +kernel
theorem dL_follows_405 : decode cL_follows 405 = .ok (.aload_n 0, 1) := by decide +kernel
theorem dL_follows_406 : decode cL_follows 406 = .ok (.iload 8, 2) := by decide +kernel
theorem dL_follows_408 : decode cL_follows 408 = .ok (.iconst 0, 1) := by decide +kernel
theorem dL_follows_409 : decode cL_follows 409 = .ok (.invokestatic 143, 3) := by decide +kernel
theorem dL_follows_412 : decode cL_follows 412 = .ok (.lload 17, 2) := by decide +kernel
theorem dL_follows_414 : decode cL_follows 414 = .ok (.lload 30, 2) := by decide +kernel
theorem dL_follows_416 : decode cL_follows 416 = .ok (.lsub, 1) := by decide +kernel
theorem dL_follows_417 : decode cL_follows 417 = .ok (.lcmp, 1) := by decide +kernel
theorem dL_follows_418 : decode cL_follows 418 = .ok (.ifCond .lt 65, 3) := by decide +kernel
theorem dL_follows_421 : decode cL_follows 421 = .ok (.iload 27, 2) := by decide +kernel
theorem dL_follows_423 : decode cL_follows 423 = .ok (.i2l, 1) := by decide +kernel
theorem dL_follows_424 : decode cL_follows 424 = .ok (.lload 19, 2) := by decide +kernel
theorem dL_follows_426 : decode cL_follows 426 = .ok (.lcmp, 1) := by decide +kernel
theorem dL_follows_427 : decode cL_follows 427 = .ok (.ifCond .ge 18, 3) := by decide +kernel
theorem dL_follows_430 : decode cL_follows 430 = .ok (.aload_n 0, 1) := by decide +kernel
theorem dL_follows_431 : decode cL_follows 431 = .ok (.iload 8, 2) := by decide +kernel
theorem dL_follows_433 : decode cL_follows 433 = .ok (.iconst 0, 1) := by decide +kernel
theorem dL_follows_434 : decode cL_follows 434 = .ok (.invokestatic 141, 3) := by decide +kernel
theorem dL_follows_437 : decode cL_follows 437 = .ok (.lload 15, 2) := by decide +kernel
theorem dL_follows_439 : decode cL_follows 439 = .ok (.lconst 1, 1) := by decide +kernel
theorem dL_follows_440 : decode cL_follows 440 = .ok (.lsub, 1) := by decide +kernel
theorem dL_follows_441 : decode cL_follows 441 = .ok (.lcmp, 1) := by decide +kernel
theorem dL_follows_442 : decode cL_follows 442 = .ok (.ifCond .le 41, 3) := by decide +kernel
theorem dL_follows_445 : decode cL_follows 445 = .ok (.iload 27, 2) := by decide +kernel
theorem dL_follows_447 : decode cL_follows 447 = .ok (.i2l, 1) := by decide +kernel
theorem dL_follows_448 : decode cL_follows 448 = .ok (.lload 21, 2) := by decide +kernel
theorem dL_follows_450 : decode cL_follows 450 = .ok (.lcmp, 1) := by decide +kernel
theorem dL_follows_451 : decode cL_follows 451 = .ok (.ifCond .ge 19, 3) := by decide +kernel
theorem dL_follows_454 : decode cL_follows 454 = .ok (.aload_n 0, 1) := by decide +kernel
theorem dL_follows_455 : decode cL_follows 455 = .ok (.iload 8, 2) := by decide +kernel
theorem dL_follows_457 : decode cL_follows 457 = .ok (.iconst 0, 1) := by decide +kernel
theorem dL_follows_458 : decode cL_follows 458 = .ok (.invokestatic 143, 3) := by decide +kernel
theorem dL_follows_461 : decode cL_follows 461 = .ok (.lload 17, 2) := by decide +kernel
theorem dL_follows_463 : decode cL_follows 463 = .ok (.lload 30, 2) := by decide +kernel
theorem dL_follows_465 : decode cL_follows 465 = .ok (.lsub, 1) := by decide +kernel
theorem dL_follows_466 : decode cL_follows 466 = .ok (.lcmp, 1) := by decide +kernel
theorem dL_follows_467 : decode cL_follows 467 = .ok (.ifCond .le 16, 3) := by decide +kernel
theorem dL_follows_470 : decode cL_follows 470 = .ok (.aload_n 0, 1) := by decide +kernel
theorem dL_follows_471 : decode cL_follows 471 = .ok (.invokestatic 194, 3) := by decide +kernel
theorem dL_follows_474 : decode cL_follows 474 = .ok (.lconst 0, 1) := by decide +kernel
theorem dL_follows_475 : decode cL_follows 475 = .ok (.lcmp, 1) := by decide +kernel
theorem dL_follows_476 : decode cL_follows 476 = .ok (.ifCond .lt 7, 3) := by decide +kernel
theorem dL_follows_479 : decode cL_follows 479 = .ok (.iconst 1, 1) := by decide +kernel
theorem dL_follows_480 : decode cL_follows 480 = .ok (.goto 4, 3) := by decide +kernel
theorem dL_follows_483 : decode cL_follows 483 = .ok (.iconst 0, 1) := by decide +kernel
theorem dL_follows_484 : decode cL_follows 484 = .ok (.istore 6, 2) := by decide +kernel
theorem dL_follows_486 : decode cL_follows 486 = .ok (.iinc 27 1, 3) := by decide +kernel
theorem dL_follows_489 : decode cL_follows 489 = .ok (.goto (-268), 3) := by decide +kernel
theorem dL_follows_492 : decode cL_follows 492 = .ok (.iload 6, 2) := by decide +kernel
theorem dL_follows_494 : decode cL_follows 494 = .ok (.ifCond .eq 31, 3) := by decide +kernel
theorem dL_follows_497 : decode cL_follows 497 = .ok (.aload_n 0, 1) := by decide +kernel
theorem dL_follows_498 : decode cL_follows 498 = .ok (.invokestatic 120, 3) := by decide +kernel
theorem dL_follows_501 : decode cL_follows 501 = .ok (.lload_n 2, 1) := by decide +kernel
theorem dL_follows_502 : decode cL_follows 502 = .ok (.lcmp, 1) := by decide +kernel
theorem dL_follows_503 : decode cL_follows 503 = .ok (.ifCond .ne 22, 3) := by decide +kernel
theorem dL_follows_506 : decode cL_follows 506 = .ok (.lload 9, 2) := by decide +kernel
theorem dL_follows_508 : decode cL_follows 508 = .ok (.lconst 0, 1) := by decide +kernel
theorem dL_follows_509 : decode cL_follows 509 = .ok (.lcmp, 1) := by decide +kernel
theorem dL_follows_510 : decode cL_follows 510 = .ok (.ifCond .eq 11, 3) := by decide +kernel
theorem dL_follows_513 : decode cL_follows 513 = .ok (.lload 25, 2) := by decide +kernel
theorem dL_follows_515 : decode cL_follows 515 = .ok (.lload 13, 2) := by decide +kernel
theorem dL_follows_517 : decode cL_follows 517 = .ok (.lcmp, 1) := by decide +kernel
theorem dL_follows_518 : decode cL_follows 518 = .ok (.ifCond .ne 7, 3) := by decide +kernel
theorem dL_follows_521 : decode cL_follows 521 = .ok (.iconst 1, 1) := by decide +kernel
theorem dL_follows_522 : decode cL_follows 522 = .ok (.goto 4, 3) := by decide +kernel
theorem dL_follows_525 : decode cL_follows 525 = .ok (.iconst 0, 1) := by decide +kernel
theorem dL_follows_526 : decode cL_follows 526 = .ok (.istore 6, 2) := by decide +kernel
theorem dL_follows_528 : decode cL_follows 528 = .ok (.lload 11, 2) := by decide +kernel
theorem dL_follows_530 : decode cL_follows 530 = .ok (.lconst 0, 1) := by decide +kernel
theorem dL_follows_531 : decode cL_follows 531 = .ok (.lcmp, 1) := by decide +kernel
theorem dL_follows_532 : decode cL_follows 532 = .ok (.ifCond .eq 97, 3) := by decide +kernel
theorem dL_follows_535 : decode cL_follows 535 = .ok (.iload 6, 2) := by decide +kernel
theorem dL_follows_537 : decode cL_follows 537 = .ok (.ifCond .eq 92, 3) := by decide +kernel
theorem dL_follows_540 : decode cL_follows 540 = .ok (.aload_n 0, 1) := by decide +kernel
theorem dL_follows_541 : decode cL_follows 541 = .ok (.iload 8, 2) := by decide +kernel
theorem dL_follows_543 : decode cL_follows 543 = .ok (.invokestatic 130, 3) := by decide +kernel
theorem dL_follows_546 : decode cL_follows 546 = .ok (.lstore 27, 2) := by decide +kernel
theorem dL_follows_548 : decode cL_follows 548 = .ok (.lload 11, 2) := by decide +kernel
theorem dL_follows_550 : decode cL_follows 550 = .ok (.lload 27, 2) := by decide +kernel
theorem dL_follows_552 : decode cL_follows 552 = .ok (.l2i, 1) := by decide +kernel
theorem dL_follows_553 : decode cL_follows 553 = .ok (.invokestatic 147, 3) := by decide +kernel
theorem dL_follows_556 : decode cL_follows 556 = .ok (.ifCond .eq 70, 3) := by decide +kernel
theorem dL_follows_559 : decode cL_follows 559 = .ok (.lload 11, 2) := by decide +kernel
theorem dL_follows_561 : decode cL_follows 561 = .ok (.lconst 1, 1) := by decide +kernel
theorem dL_follows_562 : decode cL_follows 562 = .ok (.lload 27, 2) := by decide +kernel
theorem dL_follows_564 : decode cL_follows 564 = .ok (.l2i, 1) := by decide +kernel
theorem dL_follows_565 : decode cL_follows 565 = .ok (.lshl, 1) := by decide +kernel
theorem dL_follows_566 : decode cL_follows 566 = .ok (.lconst 1, 1) := by decide +kernel
theorem dL_follows_567 : decode cL_follows 567 = .ok (.lsub, 1) := by decide +kernel
theorem dL_follows_568 : decode cL_follows 568 = .ok (.land, 1) := by decide +kernel
theorem dL_follows_569 : decode cL_follows 569 = .ok (.lconst 0, 1) := by decide +kernel
theorem dL_follows_570 : decode cL_follows 570 = .ok (.lcmp, 1) := by decide +kernel
theorem dL_follows_571 : decode cL_follows 571 = .ok (.ifCond .ne 55, 3) := by decide +kernel
theorem dL_follows_574 : decode cL_follows 574 = .ok (.aload_n 0, 1) := by decide +kernel
theorem dL_follows_575 : decode cL_follows 575 = .ok (.iconst 1, 1) := by decide +kernel
theorem dL_follows_576 : decode cL_follows 576 = .ok (.ldc2_w 196, 3) := by decide +kernel
theorem dL_follows_579 : decode cL_follows 579 = .ok (.ldc2_w 198, 3) := by decide +kernel
theorem dL_follows_582 : decode cL_follows 582 = .ok (.iload 8, 2) := by decide +kernel
theorem dL_follows_584 : decode cL_follows 584 = .ok (.i2l, 1) := by decide +kernel
theorem dL_follows_585 : decode cL_follows 585 = .ok (.lmul, 1) := by decide +kernel
theorem dL_follows_586 : decode cL_follows 586 = .ok (.ladd, 1) := by decide +kernel
theorem dL_follows_587 : decode cL_follows 587 = .ok (.ldc2_w 170, 3) := by decide +kernel
theorem dL_follows_590 : decode cL_follows 590 = .ok (.lload 27, 2) := by decide +kernel
theorem dL_follows_592 : decode cL_follows 592 = .ok (.lmul, 1) := by decide +kernel
theorem dL_follows_593 : decode cL_follows 593 = .ok (.ladd, 1) := by decide +kernel
theorem dL_follows_594 : decode cL_follows 594 = .ok (.invokestatic 153, 3) := by decide +kernel
theorem dL_follows_597 : decode cL_follows 597 = .ok (.ldc2_w 178, 3) := by decide +kernel
theorem dL_follows_600 : decode cL_follows 600 = .ok (.lcmp, 1) := by decide +kernel
theorem dL_follows_601 : decode cL_follows 601 = .ok (.ifCond .ne 25, 3) := by decide +kernel
theorem dL_follows_604 : decode cL_follows 604 = .ok (.aload_n 0, 1) := by decide +kernel
theorem dL_follows_605 : decode cL_follows 605 = .ok (.invokestatic 194, 3) := by decide +kernel
theorem dL_follows_608 : decode cL_follows 608 = .ok (.lconst 0, 1) := by decide +kernel
theorem dL_follows_609 : decode cL_follows 609 = .ok (.lcmp, 1) := by decide +kernel
theorem dL_follows_610 : decode cL_follows 610 = .ok (.ifCond .lt 16, 3) := by decide +kernel
theorem dL_follows_613 : decode cL_follows 613 = .ok (.aload_n 0, 1) := by decide +kernel
theorem dL_follows_614 : decode cL_follows 614 = .ok (.invokestatic 120, 3) := by decide +kernel
theorem dL_follows_617 : decode cL_follows 617 = .ok (.lload_n 2, 1) := by decide +kernel
theorem dL_follows_618 : decode cL_follows 618 = .ok (.lcmp, 1) := by decide +kernel
theorem dL_follows_619 : decode cL_follows 619 = .ok (.ifCond .ne 7, 3) := by decide +kernel
theorem dL_follows_622 : decode cL_follows 622 = .ok (.iconst 1, 1) := by decide +kernel
theorem dL_follows_623 : decode cL_follows 623 = .ok (.goto 4, 3) := by decide +kernel
theorem dL_follows_626 : decode cL_follows 626 = .ok (.iconst 0, 1) := by decide +kernel
theorem dL_follows_627 : decode cL_follows 627 = .ok (.istore 6, 2) := by decide +kernel
theorem dL_follows_629 : decode cL_follows 629 = .ok (.iload_n 1, 1) := by decide +kernel
theorem dL_follows_630 : decode cL_follows 630 = .ok (.bipush 7, 2) := by decide +kernel
theorem dL_follows_632 : decode cL_follows 632 = .ok (.idiv, 1) := by decide +kernel
theorem dL_follows_633 : decode cL_follows 633 = .ok (.iload 4, 2) := by decide +kernel
theorem dL_follows_635 : decode cL_follows 635 = .ok (.irem, 1) := by decide +kernel
theorem dL_follows_636 : decode cL_follows 636 = .ok (.istore 27, 2) := by decide +kernel
theorem dL_follows_638 : decode cL_follows 638 = .ok (.aload_n 0, 1) := by decide +kernel
theorem dL_follows_639 : decode cL_follows 639 = .ok (.iload 27, 2) := by decide +kernel
theorem dL_follows_641 : decode cL_follows 641 = .ok (.iconst 3, 1) := by decide +kernel
theorem dL_follows_642 : decode cL_follows 642 = .ok (.invokestatic 111, 3) := by decide +kernel
theorem dL_follows_645 : decode cL_follows 645 = .ok (.lstore 28, 2) := by decide +kernel
theorem dL_follows_647 : decode cL_follows 647 = .ok (.iload 6, 2) := by decide +kernel
theorem dL_follows_649 : decode cL_follows 649 = .ok (.ifCond .eq 66, 3) := by decide +kernel
theorem dL_follows_652 : decode cL_follows 652 = .ok (.aload_n 0, 1) := by decide +kernel
theorem dL_follows_653 : decode cL_follows 653 = .ok (.iload 27, 2) := by decide +kernel
theorem dL_follows_655 : decode cL_follows 655 = .ok (.invokestatic 137, 3) := by decide +kernel
theorem dL_follows_658 : decode cL_follows 658 = .ok (.lload 28, 2) := by decide +kernel
theorem dL_follows_660 : decode cL_follows 660 = .ok (.lcmp, 1) := by decide +kernel
theorem dL_follows_661 : decode cL_follows 661 = .ok (.ifCond .ne 54, 3) := by decide +kernel
theorem dL_follows_664 : decode cL_follows 664 = .ok (.aload_n 0, 1) := by decide +kernel
theorem dL_follows_665 : decode cL_follows 665 = .ok (.iload 27, 2) := by decide +kernel
theorem dL_follows_667 : decode cL_follows 667 = .ok (.iconst 3, 1) := by decide +kernel
theorem dL_follows_668 : decode cL_follows 668 = .ok (.invokestatic 111, 3) := by decide +kernel
theorem dL_follows_671 : decode cL_follows 671 = .ok (.lconst 1, 1) := by decide +kernel
theorem dL_follows_672 : decode cL_follows 672 = .ok (.iload 4, 2) := by decide +kernel
theorem dL_follows_674 : decode cL_follows 674 = .ok (.iconst 1, 1) := by decide +kernel
theorem dL_follows_675 : decode cL_follows 675 = .ok (.isub, 1) := by decide +kernel
theorem dL_follows_676 : decode cL_follows 676 = .ok (.lshl, 1) := by decide +kernel
theorem dL_follows_677 : decode cL_follows 677 = .ok (.lcmp, 1) := by decide +kernel
theorem dL_follows_678 : decode cL_follows 678 = .ok (.ifCond .ne 37, 3) := by decide +kernel
theorem dL_follows_681 : decode cL_follows 681 = .ok (.aload_n 0, 1) := by decide +kernel
theorem dL_follows_682 : decode cL_follows 682 = .ok (.iload 27, 2) := by decide +kernel
theorem dL_follows_684 : decode cL_follows 684 = .ok (.iconst 0, 1) := by decide +kernel
theorem dL_follows_685 : decode cL_follows 685 = .ok (.invokestatic 124, 3) := by decide +kernel
theorem dL_follows_688 : decode cL_follows 688 = .ok (.lconst 1, 1) := by decide +kernel
theorem dL_follows_689 : decode cL_follows 689 = .ok (.lcmp, 1) := by decide +kernel
theorem dL_follows_690 : decode cL_follows 690 = .ok (.ifCond .ne 25, 3) := by decide +kernel
theorem dL_follows_693 : decode cL_follows 693 = .ok (.aload_n 0, 1) := by decide +kernel
theorem dL_follows_694 : decode cL_follows 694 = .ok (.invokestatic 194, 3) := by decide +kernel
theorem dL_follows_697 : decode cL_follows 697 = .ok (.lconst 0, 1) := by decide +kernel
theorem dL_follows_698 : decode cL_follows 698 = .ok (.lcmp, 1) := by decide +kernel
theorem dL_follows_699 : decode cL_follows 699 = .ok (.ifCond .lt 16, 3) := by decide +kernel
theorem dL_follows_702 : decode cL_follows 702 = .ok (.aload_n 0, 1) := by decide +kernel
theorem dL_follows_703 : decode cL_follows 703 = .ok (.invokestatic 120, 3) := by decide +kernel
theorem dL_follows_706 : decode cL_follows 706 = .ok (.lload_n 2, 1) := by decide +kernel
theorem dL_follows_707 : decode cL_follows 707 = .ok (.lcmp, 1) := by decide +kernel
theorem dL_follows_708 : decode cL_follows 708 = .ok (.ifCond .ne 7, 3) := by decide +kernel
theorem dL_follows_711 : decode cL_follows 711 = .ok (.iconst 1, 1) := by decide +kernel
theorem dL_follows_712 : decode cL_follows 712 = .ok (.goto 4, 3) := by decide +kernel
theorem dL_follows_715 : decode cL_follows 715 = .ok (.iconst 0, 1) := by decide +kernel
theorem dL_follows_716 : decode cL_follows 716 = .ok (.istore 6, 2) := by decide +kernel
theorem dL_follows_718 : decode cL_follows 718 = .ok (.iload 6, 2) := by decide +kernel
theorem dL_follows_720 : decode cL_follows 720 = .ok (.ifCond .eq 90, 3) := by decide +kernel
theorem dL_follows_723 : decode cL_follows 723 = .ok (.aload_n 0, 1) := by decide +kernel
theorem dL_follows_724 : decode cL_follows 724 = .ok (.iload 8, 2) := by decide +kernel
theorem dL_follows_726 : decode cL_follows 726 = .ok (.invokestatic 132, 3) := by decide +kernel
theorem dL_follows_729 : decode cL_follows 729 = .ok (.iload 5, 2) := by decide +kernel
theorem dL_follows_731 : decode cL_follows 731 = .ok (.i2l, 1) := by decide +kernel
theorem dL_follows_732 : decode cL_follows 732 = .ok (.lconst 1, 1) := by decide +kernel
theorem dL_follows_733 : decode cL_follows 733 = .ok (.lsub, 1) := by decide +kernel
theorem dL_follows_734 : decode cL_follows 734 = .ok (.lcmp, 1) := by decide +kernel
theorem dL_follows_735 : decode cL_follows 735 = .ok (.ifCond .ne 75, 3) := by decide +kernel
theorem dL_follows_738 : decode cL_follows 738 = .ok (.aload_n 0, 1) := by decide +kernel
theorem dL_follows_739 : decode cL_follows 739 = .ok (.iconst 1, 1) := by decide +kernel
theorem dL_follows_740 : decode cL_follows 740 = .ok (.invokestatic 106, 3) := by decide +kernel
theorem dL_follows_743 : decode cL_follows 743 = .ok (.iload 5, 2) := by decide +kernel
theorem dL_follows_745 : decode cL_follows 745 = .ok (.i2l, 1) := by decide +kernel
theorem dL_follows_746 : decode cL_follows 746 = .ok (.lconst 1, 1) := by decide +kernel
theorem dL_follows_747 : decode cL_follows 747 = .ok (.lsub, 1) := by decide +kernel
theorem dL_follows_748 : decode cL_follows 748 = .ok (.lcmp, 1) := by decide +kernel
theorem dL_follows_749 : decode cL_follows 749 = .ok (.ifCond .ne 61, 3) := by decide +kernel
theorem dL_follows_752 : decode cL_follows 752 = .ok (.aload_n 0, 1) := by decide +kernel
theorem dL_follows_753 : decode cL_follows 753 = .ok (.invokestatic 139, 3) := by decide +kernel
theorem dL_follows_756 : decode cL_follows 756 = .ok (.iload 5, 2) := by decide +kernel
theorem dL_follows_758 : decode cL_follows 758 = .ok (.i2l, 1) := by decide +kernel
theorem dL_follows_759 : decode cL_follows 759 = .ok (.lconst 1, 1) := by decide +kernel
theorem dL_follows_760 : decode cL_follows 760 = .ok (.lsub, 1) := by decide +kernel
theorem dL_follows_761 : decode cL_follows 761 = .ok (.lcmp, 1) := by decide +kernel
theorem dL_follows_762 : decode cL_follows 762 = .ok (.ifCond .ne 48, 3) := by decide +kernel
theorem dL_follows_765 : decode cL_follows 765 = .ok (.aload_n 0, 1) := by decide +kernel
theorem dL_follows_766 : decode cL_follows 766 = .ok (.iload 5, 2) := by decide +kernel
theorem dL_follows_768 : decode cL_follows 768 = .ok (.iconst 1, 1) := by decide +kernel
theorem dL_follows_769 : decode cL_follows 769 = .ok (.isub, 1) := by decide +kernel
theorem dL_follows_770 : decode cL_follows 770 = .ok (.iconst 1, 1) := by decide +kernel
theorem dL_follows_771 : decode cL_follows 771 = .ok (.invokestatic 114, 3) := by decide +kernel
theorem dL_follows_774 : decode cL_follows 774 = .ok (.lconst 0, 1) := by decide +kernel
theorem dL_follows_775 : decode cL_follows 775 = .ok (.lcmp, 1) := by decide +kernel
theorem dL_follows_776 : decode cL_follows 776 = .ok (.ifCond .ne 34, 3) := by decide +kernel
theorem dL_follows_779 : decode cL_follows 779 = .ok (.aload_n 0, 1) := by decide +kernel
theorem dL_follows_780 : decode cL_follows 780 = .ok (.invokestatic 194, 3) := by decide +kernel
theorem dL_follows_783 : decode cL_follows 783 = .ok (.lconst 0, 1) := by decide +kernel
theorem dL_follows_784 : decode cL_follows 784 = .ok (.lcmp, 1) := by decide +kernel
theorem dL_follows_785 : decode cL_follows 785 = .ok (.ifCond .lt 25, 3) := by decide +kernel
theorem dL_follows_788 : decode cL_follows 788 = .ok (.aload_n 0, 1) := by decide +kernel
theorem dL_follows_789 : decode cL_follows 789 = .ok (.invokestatic 194, 3) := by decide +kernel
theorem dL_follows_792 : decode cL_follows 792 = .ok (.lconst 0, 1) := by decide +kernel
theorem dL_follows_793 : decode cL_follows 793 = .ok (.lcmp, 1) := by decide +kernel
theorem dL_follows_794 : decode cL_follows 794 = .ok (.ifCond .lt 16, 3) := by decide +kernel
theorem dL_follows_797 : decode cL_follows 797 = .ok (.aload_n 0, 1) := by decide +kernel
theorem dL_follows_798 : decode cL_follows 798 = .ok (.invokestatic 120, 3) := by decide +kernel
theorem dL_follows_801 : decode cL_follows 801 = .ok (.lload_n 2, 1) := by decide +kernel
theorem dL_follows_802 : decode cL_follows 802 = .ok (.lcmp, 1) := by decide +kernel
theorem dL_follows_803 : decode cL_follows 803 = .ok (.ifCond .ne 7, 3) := by decide +kernel
theorem dL_follows_806 : decode cL_follows 806 = .ok (.iconst 1, 1) := by decide +kernel
theorem dL_follows_807 : decode cL_follows 807 = .ok (.goto 4, 3) := by decide +kernel
theorem dL_follows_810 : decode cL_follows 810 = .ok (.iconst 0, 1) := by decide +kernel
theorem dL_follows_811 : decode cL_follows 811 = .ok (.istore 6, 2) := by decide +kernel
theorem dL_follows_813 : decode cL_follows 813 = .ok (.iload 6, 2) := by decide +kernel
theorem dL_follows_815 : decode cL_follows 815 = .ok (.ifCond .eq 39, 3) := by decide +kernel
theorem dL_follows_818 : decode cL_follows 818 = .ok (.aload_n 0, 1) := by decide +kernel
theorem dL_follows_819 : decode cL_follows 819 = .ok (.iconst 1, 1) := by decide +kernel
theorem dL_follows_820 : decode cL_follows 820 = .ok (.invokestatic 164, 3) := by decide +kernel
theorem dL_follows_823 : decode cL_follows 823 = .ok (.iload 5, 2) := by decide +kernel
theorem dL_follows_825 : decode cL_follows 825 = .ok (.i2l, 1) := by decide +kernel
theorem dL_follows_826 : decode cL_follows 826 = .ok (.lcmp, 1) := by decide +kernel
theorem dL_follows_827 : decode cL_follows 827 = .ok (.ifCond .ne 27, 3) := by decide +kernel
theorem dL_follows_830 : decode cL_follows 830 = .ok (.aload_n 0, 1) := by decide +kernel
theorem dL_follows_831 : decode cL_follows 831 = .ok (.invokestatic 120, 3) := by decide +kernel
theorem dL_follows_834 : decode cL_follows 834 = .ok (.lload_n 2, 1) := by decide +kernel
theorem dL_follows_835 : decode cL_follows 835 = .ok (.lcmp, 1) := by decide +kernel
theorem dL_follows_836 : decode cL_follows 836 = .ok (.ifCond .ne 18, 3) := by decide +kernel
theorem dL_follows_839 : decode cL_follows 839 = .ok (.aload_n 0, 1) := by decide +kernel
theorem dL_follows_840 : decode cL_follows 840 = .ok (.invokestatic 194, 3) := by decide +kernel
theorem dL_follows_843 : decode cL_follows 843 = .ok (.ldc2_w 21, 3) := by decide +kernel
theorem dL_follows_846 : decode cL_follows 846 = .ok (.lcmp, 1) := by decide +kernel
theorem dL_follows_847 : decode cL_follows 847 = .ok (.ifCond .ne 7, 3) := by decide +kernel
theorem dL_follows_850 : decode cL_follows 850 = .ok (.iconst 1, 1) := by decide +kernel
theorem dL_follows_851 : decode cL_follows 851 = .ok (.goto 4, 3) := by decide +kernel
theorem dL_follows_854 : decode cL_follows 854 = .ok (.iconst 0, 1) := by decide +kernel
theorem dL_follows_855 : decode cL_follows 855 = .ok (.ireturn, 1) := by decide +kernel
theorem dL_alike_0 : decode cL_alike 0 = .ok (.aload_n 0, 1) := by decide +kernel
theorem dL_alike_1 : decode cL_alike 1 = .ok (.invokestatic 120, 3) := by decide +kernel
theorem dL_alike_4 : decode cL_alike 4 = .ok (.aload_n 1, 1) := by decide +kernel
theorem dL_alike_5 : decode cL_alike 5 = .ok (.invokestatic 120, 3) := by decide +kernel
theorem dL_alike_8 : decode cL_alike 8 = .ok (.lcmp, 1) := by decide +kernel
theorem dL_alike_9 : decode cL_alike 9 = .ok (.ifCond .ne 164, 3) := by decide +kernel
theorem dL_alike_12 : decode cL_alike 12 = .ok (.aload_n 0, 1) := by decide +kernel
theorem dL_alike_13 : decode cL_alike 13 = .ok (.invokevirtual 200, 3) := by decide +kernel
theorem dL_alike_16 : decode cL_alike 16 = .ok (.aload_n 1, 1) := by decide +kernel
theorem dL_alike_17 : decode cL_alike 17 = .ok (.invokevirtual 200, 3) := by decide +kernel
theorem dL_alike_20 : decode cL_alike 20 = .ok (.if_icmp .ne 153, 3) := by decide +kernel
theorem dL_alike_23 : decode cL_alike 23 = .ok (.aload_n 0, 1) := by decide +kernel
theorem dL_alike_24 : decode cL_alike 24 = .ok (.invokevirtual 191, 3) := by decide +kernel
theorem dL_alike_27 : decode cL_alike 27 = .ok (.aload_n 1, 1) := by decide +kernel
theorem dL_alike_28 : decode cL_alike 28 = .ok (.invokevirtual 191, 3) := by decide +kernel
theorem dL_alike_31 : decode cL_alike 31 = .ok (.if_icmp .ne 142, 3) := by decide +kernel
theorem dL_alike_34 : decode cL_alike 34 = .ok (.aload_n 0, 1) := by decide +kernel
theorem dL_alike_35 : decode cL_alike 35 = .ok (.invokevirtual 188, 3) := by decide +kernel
theorem dL_alike_38 : decode cL_alike 38 = .ok (.aload_n 1, 1) := by decide +kernel
theorem dL_alike_39 : decode cL_alike 39 = .ok (.invokevirtual 188, 3) := by decide +kernel
theorem dL_alike_42 : decode cL_alike 42 = .ok (.if_icmp .ne 131, 3) := by decide +kernel
theorem dL_alike_45 : decode cL_alike 45 = .ok (.aload_n 0, 1) := by decide +kernel
theorem dL_alike_46 : decode cL_alike 46 = .ok (.iload_n 2, 1) := by decide +kernel
theorem dL_alike_47 : decode cL_alike 47 = .ok (.i2l, 1) := by decide +kernel
theorem dL_alike_48 : decode cL_alike 48 = .ok (.bipush 12, 2) := by decide +kernel
theorem dL_alike_50 : decode cL_alike 50 = .ok (.invokestatic 159, 3) := by decide +kernel
theorem dL_alike_53 : decode cL_alike 53 = .ok (.aload_n 1, 1) := by decide +kernel
theorem dL_alike_54 : decode cL_alike 54 = .ok (.iload_n 2, 1) := by decide +kernel
theorem dL_alike_55 : decode cL_alike 55 = .ok (.i2l, 1) := by decide +kernel
theorem dL_alike_56 : decode cL_alike 56 = .ok (.bipush 12, 2) := by decide +kernel
theorem dL_alike_58 : decode cL_alike 58 = .ok (.invokestatic 159, 3) := by decide +kernel
theorem dL_alike_61 : decode cL_alike 61 = .ok (.lcmp, 1) := by decide +kernel
theorem dL_alike_62 : decode cL_alike 62 = .ok (.ifCond .ne 111, 3) := by decide +kernel
theorem dL_alike_65 : decode cL_alike 65 = .ok (.aload_n 0, 1) := by decide +kernel
theorem dL_alike_66 : decode cL_alike 66 = .ok (.iload_n 2, 1) := by decide +kernel
theorem dL_alike_67 : decode cL_alike 67 = .ok (.bipush 10, 2) := by decide +kernel
theorem dL_alike_69 : decode cL_alike 69 = .ok (.irem, 1) := by decide +kernel
theorem dL_alike_70 : decode cL_alike 70 = .ok (.iload_n 2, 1) := by decide +kernel
theorem dL_alike_71 : decode cL_alike 71 = .ok (.bipush 10, 2) := by decide +kernel
theorem dL_alike_73 : decode cL_alike 73 = .ok (.idiv, 1) := by decide +kernel
theorem dL_alike_74 : decode cL_alike 74 = .ok (.bipush 64, 2) := by decide +kernel
theorem dL_alike_76 : decode cL_alike 76 = .ok (.irem, 1) := by decide +kernel
theorem dL_alike_77 : decode cL_alike 77 = .ok (.invokestatic 124, 3) := by decide +kernel
theorem dL_alike_80 : decode cL_alike 80 = .ok (.aload_n 1, 1) := by decide +kernel
theorem dL_alike_81 : decode cL_alike 81 = .ok (.iload_n 2, 1) := by decide +kernel
theorem dL_alike_82 : decode cL_alike 82 = .ok (.bipush 10, 2) := by decide +kernel
theorem dL_alike_84 : decode cL_alike 84 = .ok (.irem, 1) := by decide +kernel
theorem dL_alike_85 : decode cL_alike 85 = .ok (.iload_n 2, 1) := by decide +kernel
theorem dL_alike_86 : decode cL_alike 86 = .ok (.bipush 10, 2) := by decide +kernel
theorem dL_alike_88 : decode cL_alike 88 = .ok (.idiv, 1) := by decide +kernel
theorem dL_alike_89 : decode cL_alike 89 = .ok (.bipush 64, 2) := by decide +kernel
theorem dL_alike_91 : decode cL_alike 91 = .ok (.irem, 1) := by decide +kernel
theorem dL_alike_92 : decode cL_alike 92 = .ok (.invokestatic 124, 3) := by decide +kernel
theorem dL_alike_95 : decode cL_alike 95 = .ok (.lcmp, 1) := by decide +kernel
theorem dL_alike_96 : decode cL_alike 96 = .ok (.ifCond .ne 77, 3) := by decide +kernel
theorem dL_alike_99 : decode cL_alike 99 = .ok (.aload_n 0, 1) := by decide +kernel
theorem dL_alike_100 : decode cL_alike 100 = .ok (.iconst 4, 1) := by decide +kernel
theorem dL_alike_101 : decode cL_alike 101 = .ok (.ldc2_w 203, 3) := by decide +kernel
theorem dL_alike_104 : decode cL_alike 104 = .ok (.iload_n 2, 1) := by decide +kernel
theorem dL_alike_105 : decode cL_alike 105 = .ok (.bipush 9, 2) := by decide +kernel
theorem dL_alike_107 : decode cL_alike 107 = .ok (.irem, 1) := by decide +kernel
theorem dL_alike_108 : decode cL_alike 108 = .ok (.i2l, 1) := by decide +kernel
theorem dL_alike_109 : decode cL_alike 109 = .ok (.ladd, 1) := by decide +kernel
theorem dL_alike_110 : decode cL_alike 110 = .ok (.invokestatic 153, 3) := by decide +kernel
theorem dL_alike_113 : decode cL_alike 113 = .ok (.aload_n 1, 1) := by decide +kernel
theorem dL_alike_114 : decode cL_alike 114 = .ok (.iconst 4, 1) := by decide +kernel
theorem dL_alike_115 : decode cL_alike 115 = .ok (.ldc2_w 203, 3) := by decide +kernel
theorem dL_alike_118 : decode cL_alike 118 = .ok (.iload_n 2, 1) := by decide +kernel
theorem dL_alike_119 : decode cL_alike 119 = .ok (.bipush 9, 2) := by decide +kernel
theorem dL_alike_121 : decode cL_alike 121 = .ok (.irem, 1) := by decide +kernel
theorem dL_alike_122 : decode cL_alike 122 = .ok (.i2l, 1) := by decide +kernel
theorem dL_alike_123 : decode cL_alike 123 = .ok (.ladd, 1) := by decide +kernel
theorem dL_alike_124 : decode cL_alike 124 = .ok (.invokestatic 153, 3) := by decide +kernel
theorem dL_alike_127 : decode cL_alike 127 = .ok (.lcmp, 1) := by decide +kernel
theorem dL_alike_128 : decode cL_alike 128 = .ok (.ifCond .ne 45, 3) := by decide +kernel
theorem dL_alike_131 : decode cL_alike 131 = .ok (.aload_n 0, 1) := by decide +kernel
theorem dL_alike_132 : decode cL_alike 132 = .ok (.iload_n 2, 1) := by decide +kernel
theorem dL_alike_133 : decode cL_alike 133 = .ok (.iconst 4, 1) := by decide +kernel
theorem dL_alike_134 : decode cL_alike 134 = .ok (.irem, 1) := by decide +kernel
theorem dL_alike_135 : decode cL_alike 135 = .ok (.iconst 0, 1) := by decide +kernel
theorem dL_alike_136 : decode cL_alike 136 = .ok (.invokestatic 143, 3) := by decide +kernel
theorem dL_alike_139 : decode cL_alike 139 = .ok (.aload_n 1, 1) := by decide +kernel
theorem dL_alike_140 : decode cL_alike 140 = .ok (.iload_n 2, 1) := by decide +kernel
theorem dL_alike_141 : decode cL_alike 141 = .ok (.iconst 4, 1) := by decide +kernel
theorem dL_alike_142 : decode cL_alike 142 = .ok (.irem, 1) := by decide +kernel
theorem dL_alike_143 : decode cL_alike 143 = .ok (.iconst 0, 1) := by decide +kernel
theorem dL_alike_144 : decode cL_alike 144 = .ok (.invokestatic 143, 3) := by decide +kernel
theorem dL_alike_147 : decode cL_alike 147 = .ok (.lcmp, 1) := by decide +kernel
theorem dL_alike_148 : decode cL_alike 148 = .ok (.ifCond .ne 25, 3) := by decide +kernel
theorem dL_alike_151 : decode cL_alike 151 = .ok (.aload_n 0, 1) := by decide +kernel
theorem dL_alike_152 : decode cL_alike 152 = .ok (.iload_n 2, 1) := by decide +kernel
theorem dL_alike_153 : decode cL_alike 153 = .ok (.iconst 4, 1) := by decide +kernel
theorem dL_alike_154 : decode cL_alike 154 = .ok (.irem, 1) := by decide +kernel
theorem dL_alike_155 : decode cL_alike 155 = .ok (.invokestatic 151, 3) := by decide +kernel
theorem dL_alike_158 : decode cL_alike 158 = .ok (.aload_n 1, 1) := by decide +kernel
theorem dL_alike_159 : decode cL_alike 159 = .ok (.iload_n 2, 1) := by decide +kernel
theorem dL_alike_160 : decode cL_alike 160 = .ok (.iconst 4, 1) := by decide +kernel
theorem dL_alike_161 : decode cL_alike 161 = .ok (.irem, 1) := by decide +kernel
theorem dL_alike_162 : decode cL_alike 162 = .ok (.invokestatic 151, 3) := by decide +kernel
theorem dL_alike_165 : decode cL_alike 165 = .ok (.lcmp, 1) := by decide +kernel
theorem dL_alike_166 : decode cL_alike 166 = .ok (.ifCond .ne 7, 3) := by decide +kernel
theorem dL_alike_169 : decode cL_alike 169 = .ok (.iconst 1, 1) := by decide +kernel
theorem dL_alike_170 : decode cL_alike 170 = .ok (.goto 4, 3) := by decide +kernel
theorem dL_alike_173 : decode cL_alike 173 = .ok (.iconst 0, 1) := by decide +kernel
theorem dL_alike_174 : decode cL_alike 174 = .ok (.ireturn, 1) := by decide +kernel
theorem dL_says_0 : decode cL_says 0 = .ok (.aload_n 0, 1) := by decide +kernel
theorem dL_says_1 : decode cL_says 1 = .ok (.iload_n 1, 1) := by decide +kernel
theorem dL_says_2 : decode cL_says 2 = .ok (.invokestatic 166, 3) := by decide +kernel
theorem dL_says_5 : decode cL_says 5 = .ok (.lconst 0, 1) := by decide +kernel
theorem dL_says_6 : decode cL_says 6 = .ok (.lcmp, 1) := by decide +kernel
theorem dL_says_7 : decode cL_says 7 = .ok (.ifCond .le 7, 3) := by decide +kernel
theorem dL_says_10 : decode cL_says 10 = .ok (.iconst 1, 1) := by decide +kernel
theorem dL_says_11 : decode cL_says 11 = .ok (.goto 4, 3) := by decide +kernel
theorem dL_says_14 : decode cL_says 14 = .ok (.iconst 0, 1) := by decide +kernel
theorem dL_says_15 : decode cL_says 15 = .ok (.ireturn, 1) := by decide +kernel
theorem dL_tells_0 : decode cL_tells 0 = .ok (.iconst 2, 1) := by decide +kernel
theorem dL_tells_1 : decode cL_tells 1 = .ok (.iload_n 2, 1) := by decide +kernel
theorem dL_tells_2 : decode cL_tells 2 = .ok (.bipush 9, 2) := by decide +kernel
theorem dL_tells_4 : decode cL_tells 4 = .ok (.irem, 1) := by decide +kernel
theorem dL_tells_5 : decode cL_tells 5 = .ok (.iadd, 1) := by decide +kernel
theorem dL_tells_6 : decode cL_tells 6 = .ok (.istore_n 3, 1) := by decide +kernel
theorem dL_tells_7 : decode cL_tells 7 = .ok (.aload_n 0, 1) := by decide +kernel
theorem dL_tells_8 : decode cL_tells 8 = .ok (.invokevirtual 205, 3) := by decide +kernel
theorem dL_tells_11 : decode cL_tells 11 = .ok (.ifCond .lt 16, 3) := by decide +kernel
theorem dL_tells_14 : decode cL_tells 14 = .ok (.aload_n 0, 1) := by decide +kernel
theorem dL_tells_15 : decode cL_tells 15 = .ok (.bipush 72, 2) := by decide +kernel
theorem dL_tells_17 : decode cL_tells 17 = .ok (.invokestatic 208, 3) := by decide +kernel
theorem dL_tells_20 : decode cL_tells 20 = .ok (.ifCond .eq 7, 3) := by decide +kernel
theorem dL_tells_23 : decode cL_tells 23 = .ok (.iconst 1, 1) := by decide +kernel
theorem dL_tells_24 : decode cL_tells 24 = .ok (.goto 4, 3) := by decide +kernel
theorem dL_tells_27 : decode cL_tells 27 = .ok (.iconst 0, 1) := by decide +kernel
theorem dL_tells_28 : decode cL_tells 28 = .ok (.istore 4, 2) := by decide +kernel
theorem dL_tells_30 : decode cL_tells 30 = .ok (.iconst 0, 1) := by decide +kernel
theorem dL_tells_31 : decode cL_tells 31 = .ok (.istore 5, 2) := by decide +kernel
theorem dL_tells_33 : decode cL_tells 33 = .ok (.iload 5, 2) := by decide +kernel
theorem dL_tells_35 : decode cL_tells 35 = .ok (.iload_n 3, 1) := by decide +kernel
theorem dL_tells_36 : decode cL_tells 36 = .ok (.if_icmp .ge 427, 3) := by decide +kernel
theorem dL_tells_39 : decode cL_tells 39 = .ok (.iload 4, 2) := by decide +kernel
theorem dL_tells_41 : decode cL_tells 41 = .ok (.ifCond .eq 422, 3) := by decide +kernel
theorem dL_tells_44 : decode cL_tells 44 = .ok (.iload_n 1, 1) := by decide +kernel
theorem dL_tells_45 : decode cL_tells 45 = .ok (.iload 5, 2) := by decide +kernel
theorem dL_tells_47 : decode cL_tells 47 = .ok (.ishr, 1) := by decide +kernel
theorem dL_tells_48 : decode cL_tells 48 = .ok (.ldc 212, 2) := by decide +kernel
theorem dL_tells_50 : decode cL_tells 50 = .ok (.iand, 1) := by decide +kernel
theorem dL_tells_51 : decode cL_tells 51 = .ok (.bipush 31, 2) := by decide +kernel
theorem dL_tells_53 : decode cL_tells 53 = .ok (.iload 5, 2) := by decide +kernel
theorem dL_tells_55 : decode cL_tells 55 = .ok (.imul, 1) := by decide +kernel
theorem dL_tells_56 : decode cL_tells 56 = .ok (.iadd, 1) := by decide +kernel
theorem dL_tells_57 : decode cL_tells 57 = .ok (.istore 6, 2) := by decide +kernel
theorem dL_tells_59 : decode cL_tells 59 = .ok (.bipush 97, 2) := by decide +kernel
theorem dL_tells_61 : decode cL_tells 61 = .ok (.iload 5, 2) := by decide +kernel
theorem dL_tells_63 : decode cL_tells 63 = .ok (.ifCond .ne 7, 3) := by decide +kernel
theorem dL_tells_66 : decode cL_tells 66 = .ok (.iconst 0, 1) := by decide +kernel
theorem dL_tells_67 : decode cL_tells 67 = .ok (.goto 11, 3) := by decide +kernel
theorem dL_tells_70 : decode cL_tells 70 = .ok (.iload 6, 2) := by decide +kernel
theorem dL_tells_72 : decode cL_tells 72 = .ok (.bipush 8, 2) := by decide +kernel
theorem dL_tells_74 : decode cL_tells 74 = .ok (.idiv, 1) := by decide +kernel
theorem dL_tells_75 : decode cL_tells 75 = .ok (.iload 5, 2) := by decide +kernel
theorem dL_tells_77 : decode cL_tells 77 = .ok (.irem, 1) := by decide +kernel
theorem dL_tells_78 : decode cL_tells 78 = .ok (.iadd, 1) := by decide +kernel
theorem dL_tells_79 : decode cL_tells 79 = .ok (.istore 7, 2) := by decide +kernel
theorem dL_tells_81 : decode cL_tells 81 = .ok (.bipush 97, 2) := by decide +kernel
theorem dL_tells_83 : decode cL_tells 83 = .ok (.iload 5, 2) := by decide +kernel
theorem dL_tells_85 : decode cL_tells 85 = .ok (.ifCond .ne 7, 3) := by decide +kernel
theorem dL_tells_88 : decode cL_tells 88 = .ok (.iconst 0, 1) := by decide +kernel
theorem dL_tells_89 : decode cL_tells 89 = .ok (.goto 11, 3) := by decide +kernel
theorem dL_tells_92 : decode cL_tells 92 = .ok (.iload 6, 2) := by decide +kernel
theorem dL_tells_94 : decode cL_tells 94 = .ok (.bipush 80, 2) := by decide +kernel
theorem dL_tells_96 : decode cL_tells 96 = .ok (.idiv, 1) := by decide +kernel
theorem dL_tells_97 : decode cL_tells 97 = .ok (.iload 5, 2) := by decide +kernel
theorem dL_tells_99 : decode cL_tells 99 = .ok (.irem, 1) := by decide +kernel
theorem dL_tells_100 : decode cL_tells 100 = .ok (.iadd, 1) := by decide +kernel
theorem dL_tells_101 : decode cL_tells 101 = .ok (.istore 8, 2) := by decide +kernel
theorem dL_tells_103 : decode cL_tells 103 = .ok (.aload_n 0, 1) := by decide +kernel
theorem dL_tells_104 : decode cL_tells 104 = .ok (.bipush 47, 2) := by decide +kernel
theorem dL_tells_106 : decode cL_tells 106 = .ok (.invokestatic 208, 3) := by decide +kernel
theorem dL_tells_109 : decode cL_tells 109 = .ok (.ifCond .eq 40, 3) := by decide +kernel
theorem dL_tells_112 : decode cL_tells 112 = .ok (.aload_n 0, 1) := by decide +kernel
theorem dL_tells_113 : decode cL_tells 113 = .ok (.bipush 48, 2) := by decide +kernel
theorem dL_tells_115 : decode cL_tells 115 = .ok (.iload 6, 2) := by decide +kernel
theorem dL_tells_117 : decode cL_tells 117 = .ok (.bipush 10, 2) := by decide +kernel
theorem dL_tells_119 : decode cL_tells 119 = .ok (.irem, 1) := by decide +kernel
theorem dL_tells_120 : decode cL_tells 120 = .ok (.iadd, 1) := by decide +kernel
theorem dL_tells_121 : decode cL_tells 121 = .ok (.invokestatic 208, 3) := by decide +kernel
theorem dL_tells_124 : decode cL_tells 124 = .ok (.ifCond .eq 25, 3) := by decide +kernel
theorem dL_tells_127 : decode cL_tells 127 = .ok (.aload_n 0, 1) := by decide +kernel
theorem dL_tells_128 : decode cL_tells 128 = .ok (.bipush 48, 2) := by decide +kernel
theorem dL_tells_130 : decode cL_tells 130 = .ok (.iload 6, 2) := by decide +kernel
theorem dL_tells_132 : decode cL_tells 132 = .ok (.bipush 10, 2) := by decide +kernel
theorem dL_tells_134 : decode cL_tells 134 = .ok (.idiv, 1) := by decide +kernel
theorem dL_tells_135 : decode cL_tells 135 = .ok (.bipush 10, 2) := by decide +kernel
theorem dL_tells_137 : decode cL_tells 137 = .ok (.irem, 1) := by decide +kernel
theorem dL_tells_138 : decode cL_tells 138 = .ok (.iadd, 1) := by decide +kernel
theorem dL_tells_139 : decode cL_tells 139 = .ok (.invokestatic 208, 3) := by decide +kernel
theorem dL_tells_142 : decode cL_tells 142 = .ok (.ifCond .eq 7, 3) := by decide +kernel
theorem dL_tells_145 : decode cL_tells 145 = .ok (.iconst 1, 1) := by decide +kernel
theorem dL_tells_146 : decode cL_tells 146 = .ok (.goto 4, 3) := by decide +kernel
theorem dL_tells_149 : decode cL_tells 149 = .ok (.iconst 0, 1) := by decide +kernel
theorem dL_tells_150 : decode cL_tells 150 = .ok (.istore 4, 2) := by decide +kernel
theorem dL_tells_152 : decode cL_tells 152 = .ok (.iload 5, 2) := by decide +kernel
theorem dL_tells_154 : decode cL_tells 154 = .ok (.ifCond .ne 7, 3) := by decide +kernel
theorem dL_tells_157 : decode cL_tells 157 = .ok (.iconst 0, 1) := by decide +kernel
theorem dL_tells_158 : decode cL_tells 158 = .ok (.goto 8, 3) := by decide +kernel
theorem dL_tells_161 : decode cL_tells 161 = .ok (.iload 6, 2) := by decide +kernel
theorem dL_tells_163 : decode cL_tells 163 = .ok (.bipush 7, 2) := by decide +kernel
theorem dL_tells_165 : decode cL_tells 165 = .ok (.irem, 1) := by decide +kernel
theorem dL_tells_166 : decode cL_tells 166 = .ok (.istore 9, 2) := by decide +kernel
theorem dL_tells_168 : decode cL_tells 168 = .ok (.iload 4, 2) := by decide +kernel
theorem dL_tells_170 : decode cL_tells 170 = .ok (.ifCond .eq 284, 3) := by decide +kernel
theorem dL_tells_173 : decode cL_tells 173 = .ok (.iload 9, 2) := by decide +kernel
theorem dL_tells_175 : decode cL_tells 175 = .ok (.ifCond .ne 15, 3) := by decide +kernel
theorem dL_tells_178 : decode cL_tells 178 = .ok (.aload_n 0, 1) := by decide +kernel
theorem dL_tells_179 : decode cL_tells 179 = .ok (.bipush 42, 2) := by decide +kernel
theorem dL_tells_181 : decode cL_tells 181 = .ok (.invokestatic 208, 3) := by decide +kernel
theorem dL_tells_184 : decode cL_tells 184 = .ok (.ifCond .eq 270, 3) := by decide +kernel
theorem dL_tells_187 : decode cL_tells 187 = .ok (.goto 263, 3) := by decide +kernel
theorem dL_tells_190 : decode cL_tells 190 = .ok (.iload 9, 2) := by decide +kernel
theorem dL_tells_192 : decode cL_tells 192 = .ok (.iconst 1, 1) := by decide +kernel
theorem dL_tells_193 : decode cL_tells 193 = .ok (.if_icmp .ne 15, 3) := by decide +kernel
theorem dL_tells_196 : decode cL_tells 196 = .ok (.aload_n 0, 1) := by decide +kernel
theorem dL_tells_197 : decode cL_tells 197 = .ok (.iload 7, 2) := by decide +kernel
theorem dL_tells_199 : decode cL_tells 199 = .ok (.invokestatic 208, 3) := by decide +kernel
theorem dL_tells_202 : decode cL_tells 202 = .ok (.ifCond .eq 252, 3) := by decide +kernel
theorem dL_tells_205 : decode cL_tells 205 = .ok (.goto 245, 3) := by decide +kernel
theorem dL_tells_208 : decode cL_tells 208 = .ok (.iload 9, 2) := by decide +kernel
theorem dL_tells_210 : decode cL_tells 210 = .ok (.iconst 2, 1) := by decide +kernel
theorem dL_tells_211 : decode cL_tells 211 = .ok (.if_icmp .ne 24, 3) := by decide +kernel
theorem dL_tells_214 : decode cL_tells 214 = .ok (.aload_n 0, 1) := by decide +kernel
theorem dL_tells_215 : decode cL_tells 215 = .ok (.bipush 33, 2) := by decide +kernel
theorem dL_tells_217 : decode cL_tells 217 = .ok (.invokestatic 208, 3) := by decide +kernel
theorem dL_tells_220 : decode cL_tells 220 = .ok (.ifCond .eq 234, 3) := by decide +kernel
theorem dL_tells_223 : decode cL_tells 223 = .ok (.aload_n 0, 1) := by decide +kernel
theorem dL_tells_224 : decode cL_tells 224 = .ok (.iload 7, 2) := by decide +kernel
theorem dL_tells_226 : decode cL_tells 226 = .ok (.invokestatic 208, 3) := by decide +kernel
theorem dL_tells_229 : decode cL_tells 229 = .ok (.ifCond .eq 225, 3) := by decide +kernel
theorem dL_tells_232 : decode cL_tells 232 = .ok (.goto 218, 3) := by decide +kernel
theorem dL_tells_235 : decode cL_tells 235 = .ok (.iload 9, 2) := by decide +kernel
theorem dL_tells_237 : decode cL_tells 237 = .ok (.iconst 3, 1) := by decide +kernel
theorem dL_tells_238 : decode cL_tells 238 = .ok (.if_icmp .ne 33, 3) := by decide +kernel
theorem dL_tells_241 : decode cL_tells 241 = .ok (.aload_n 0, 1) := by decide +kernel
theorem dL_tells_242 : decode cL_tells 242 = .ok (.iload 7, 2) := by decide +kernel
theorem dL_tells_244 : decode cL_tells 244 = .ok (.invokestatic 208, 3) := by decide +kernel
theorem dL_tells_247 : decode cL_tells 247 = .ok (.ifCond .eq 207, 3) := by decide +kernel
theorem dL_tells_250 : decode cL_tells 250 = .ok (.aload_n 0, 1) := by decide +kernel
theorem dL_tells_251 : decode cL_tells 251 = .ok (.bipush 46, 2) := by decide +kernel
theorem dL_tells_253 : decode cL_tells 253 = .ok (.invokestatic 208, 3) := by decide +kernel
theorem dL_tells_256 : decode cL_tells 256 = .ok (.ifCond .eq 198, 3) := by decide +kernel
theorem dL_tells_259 : decode cL_tells 259 = .ok (.aload_n 0, 1) := by decide +kernel
theorem dL_tells_260 : decode cL_tells 260 = .ok (.iload 8, 2) := by decide +kernel
theorem dL_tells_262 : decode cL_tells 262 = .ok (.invokestatic 208, 3) := by decide +kernel
theorem dL_tells_265 : decode cL_tells 265 = .ok (.ifCond .eq 189, 3) := by decide +kernel
theorem dL_tells_268 : decode cL_tells 268 = .ok (.goto 182, 3) := by decide +kernel
theorem dL_tells_271 : decode cL_tells 271 = .ok (.iload 9, 2) := by decide +kernel
theorem dL_tells_273 : decode cL_tells 273 = .ok (.iconst 4, 1) := by decide +kernel
theorem dL_tells_274 : decode cL_tells 274 = .ok (.if_icmp .ne 51, 3) := by decide +kernel
theorem dL_tells_277 : decode cL_tells 277 = .ok (.aload_n 0, 1) := by decide +kernel
theorem dL_tells_278 : decode cL_tells 278 = .ok (.iload 7, 2) := by decide +kernel
theorem dL_tells_280 : decode cL_tells 280 = .ok (.invokestatic 208, 3) := by decide +kernel
theorem dL_tells_283 : decode cL_tells 283 = .ok (.ifCond .eq 171, 3) := by decide +kernel
theorem dL_tells_286 : decode cL_tells 286 = .ok (.aload_n 0, 1) := by decide +kernel
theorem dL_tells_287 : decode cL_tells 287 = .ok (.bipush 43, 2) := by decide +kernel
theorem dL_tells_289 : decode cL_tells 289 = .ok (.invokestatic 208, 3) := by decide +kernel
theorem dL_tells_292 : decode cL_tells 292 = .ok (.ifCond .eq 162, 3) := by decide +kernel
theorem dL_tells_295 : decode cL_tells 295 = .ok (.aload_n 0, 1) := by decide +kernel
theorem dL_tells_296 : decode cL_tells 296 = .ok (.bipush 33, 2) := by decide +kernel
theorem dL_tells_298 : decode cL_tells 298 = .ok (.invokestatic 208, 3) := by decide +kernel
theorem dL_tells_301 : decode cL_tells 301 = .ok (.ifCond .eq 153, 3) := by decide +kernel
theorem dL_tells_304 : decode cL_tells 304 = .ok (.aload_n 0, 1) := by decide +kernel
theorem dL_tells_305 : decode cL_tells 305 = .ok (.bipush 33, 2) := by decide +kernel
theorem dL_tells_307 : decode cL_tells 307 = .ok (.invokestatic 208, 3) := by decide +kernel
theorem dL_tells_310 : decode cL_tells 310 = .ok (.ifCond .eq 144, 3) := by decide +kernel
theorem dL_tells_313 : decode cL_tells 313 = .ok (.aload_n 0, 1) := by decide +kernel
theorem dL_tells_314 : decode cL_tells 314 = .ok (.iload 8, 2) := by decide +kernel
theorem dL_tells_316 : decode cL_tells 316 = .ok (.invokestatic 208, 3) := by decide +kernel
theorem dL_tells_319 : decode cL_tells 319 = .ok (.ifCond .eq 135, 3) := by decide +kernel
theorem dL_tells_322 : decode cL_tells 322 = .ok (.goto 128, 3) := by decide +kernel
theorem dL_tells_325 : decode cL_tells 325 = .ok (.iload 9, 2) := by decide +kernel
theorem dL_tells_327 : decode cL_tells 327 = .ok (.iconst 5, 1) := by decide +kernel
theorem dL_tells_328 : decode cL_tells 328 = .ok (.if_icmp .ne 68, 3) := by decide +kernel
theorem dL_tells_331 : decode cL_tells 331 = .ok (.aload_n 0, 1) := by decide +kernel
theorem dL_tells_332 : decode cL_tells 332 = .ok (.bipush 49, 2) := by decide +kernel
theorem dL_tells_334 : decode cL_tells 334 = .ok (.iload 6, 2) := by decide +kernel
theorem dL_tells_336 : decode cL_tells 336 = .ok (.bipush 7, 2) := by decide +kernel
theorem dL_tells_338 : decode cL_tells 338 = .ok (.idiv, 1) := by decide +kernel
theorem dL_tells_339 : decode cL_tells 339 = .ok (.iconst 2, 1) := by decide +kernel
theorem dL_tells_340 : decode cL_tells 340 = .ok (.irem, 1) := by decide +kernel
theorem dL_tells_341 : decode cL_tells 341 = .ok (.iadd, 1) := by decide +kernel
theorem dL_tells_342 : decode cL_tells 342 = .ok (.invokestatic 208, 3) := by decide +kernel
theorem dL_tells_345 : decode cL_tells 345 = .ok (.ifCond .eq 109, 3) := by decide +kernel
theorem dL_tells_348 : decode cL_tells 348 = .ok (.aload_n 0, 1) := by decide +kernel
theorem dL_tells_349 : decode cL_tells 349 = .ok (.bipush 91, 2) := by decide +kernel
theorem dL_tells_351 : decode cL_tells 351 = .ok (.invokestatic 208, 3) := by decide +kernel
theorem dL_tells_354 : decode cL_tells 354 = .ok (.ifCond .eq 100, 3) := by decide +kernel
theorem dL_tells_357 : decode cL_tells 357 = .ok (.aload_n 0, 1) := by decide +kernel
theorem dL_tells_358 : decode cL_tells 358 = .ok (.iload 7, 2) := by decide +kernel
theorem dL_tells_360 : decode cL_tells 360 = .ok (.invokestatic 208, 3) := by decide +kernel
theorem dL_tells_363 : decode cL_tells 363 = .ok (.ifCond .eq 91, 3) := by decide +kernel
theorem dL_tells_366 : decode cL_tells 366 = .ok (.aload_n 0, 1) := by decide +kernel
theorem dL_tells_367 : decode cL_tells 367 = .ok (.bipush 44, 2) := by decide +kernel
theorem dL_tells_369 : decode cL_tells 369 = .ok (.invokestatic 208, 3) := by decide +kernel
theorem dL_tells_372 : decode cL_tells 372 = .ok (.ifCond .eq 82, 3) := by decide +kernel
theorem dL_tells_375 : decode cL_tells 375 = .ok (.aload_n 0, 1) := by decide +kernel
theorem dL_tells_376 : decode cL_tells 376 = .ok (.iload 8, 2) := by decide +kernel
theorem dL_tells_378 : decode cL_tells 378 = .ok (.invokestatic 208, 3) := by decide +kernel
theorem dL_tells_381 : decode cL_tells 381 = .ok (.ifCond .eq 73, 3) := by decide +kernel
theorem dL_tells_384 : decode cL_tells 384 = .ok (.aload_n 0, 1) := by decide +kernel
theorem dL_tells_385 : decode cL_tells 385 = .ok (.bipush 93, 2) := by decide +kernel
theorem dL_tells_387 : decode cL_tells 387 = .ok (.invokestatic 208, 3) := by decide +kernel
theorem dL_tells_390 : decode cL_tells 390 = .ok (.ifCond .eq 64, 3) := by decide +kernel
theorem dL_tells_393 : decode cL_tells 393 = .ok (.goto 57, 3) := by decide +kernel
theorem dL_tells_396 : decode cL_tells 396 = .ok (.aload_n 0, 1) := by decide +kernel
theorem dL_tells_397 : decode cL_tells 397 = .ok (.bipush 33, 2) := by decide +kernel
theorem dL_tells_399 : decode cL_tells 399 = .ok (.invokestatic 208, 3) := by decide +kernel
theorem dL_tells_402 : decode cL_tells 402 = .ok (.ifCond .eq 52, 3) := by decide +kernel
theorem dL_tells_405 : decode cL_tells 405 = .ok (.aload_n 0, 1) := by decide +kernel
theorem dL_tells_406 : decode cL_tells 406 = .ok (.bipush 40, 2) := by decide +kernel
theorem dL_tells_408 : decode cL_tells 408 = .ok (.invokestatic 208, 3) := by decide +kernel
theorem dL_tells_411 : decode cL_tells 411 = .ok (.ifCond .eq 43, 3) := by decide +kernel
theorem dL_tells_414 : decode cL_tells 414 = .ok (.aload_n 0, 1) := by decide +kernel
theorem dL_tells_415 : decode cL_tells 415 = .ok (.iload 7, 2) := by decide +kernel
theorem dL_tells_417 : decode cL_tells 417 = .ok (.invokestatic 208, 3) := by decide +kernel
theorem dL_tells_420 : decode cL_tells 420 = .ok (.ifCond .eq 34, 3) := by decide +kernel
theorem dL_tells_423 : decode cL_tells 423 = .ok (.aload_n 0, 1) := by decide +kernel
theorem dL_tells_424 : decode cL_tells 424 = .ok (.bipush 46, 2) := by decide +kernel
theorem dL_tells_426 : decode cL_tells 426 = .ok (.invokestatic 208, 3) := by decide +kernel
theorem dL_tells_429 : decode cL_tells 429 = .ok (.ifCond .eq 25, 3) := by decide +kernel
theorem dL_tells_432 : decode cL_tells 432 = .ok (.aload_n 0, 1) := by decide +kernel
theorem dL_tells_433 : decode cL_tells 433 = .ok (.iload 8, 2) := by decide +kernel
theorem dL_tells_435 : decode cL_tells 435 = .ok (.invokestatic 208, 3) := by decide +kernel
theorem dL_tells_438 : decode cL_tells 438 = .ok (.ifCond .eq 16, 3) := by decide +kernel
theorem dL_tells_441 : decode cL_tells 441 = .ok (.aload_n 0, 1) := by decide +kernel
theorem dL_tells_442 : decode cL_tells 442 = .ok (.bipush 41, 2) := by decide +kernel
theorem dL_tells_444 : decode cL_tells 444 = .ok (.invokestatic 208, 3) := by decide +kernel
theorem dL_tells_447 : decode cL_tells 447 = .ok (.ifCond .eq 7, 3) := by decide +kernel
theorem dL_tells_450 : decode cL_tells 450 = .ok (.iconst 1, 1) := by decide +kernel
theorem dL_tells_451 : decode cL_tells 451 = .ok (.goto 4, 3) := by decide +kernel
theorem dL_tells_454 : decode cL_tells 454 = .ok (.iconst 0, 1) := by decide +kernel
theorem dL_tells_455 : decode cL_tells 455 = .ok (.istore 4, 2) := by decide +kernel
theorem dL_tells_457 : decode cL_tells 457 = .ok (.iinc 5 1, 3) := by decide +kernel
theorem dL_tells_460 : decode cL_tells 460 = .ok (.goto (-427), 3) := by decide +kernel
theorem dL_tells_463 : decode cL_tells 463 = .ok (.iload 4, 2) := by decide +kernel
theorem dL_tells_465 : decode cL_tells 465 = .ok (.ifCond .eq 16, 3) := by decide +kernel
theorem dL_tells_468 : decode cL_tells 468 = .ok (.aload_n 0, 1) := by decide +kernel
theorem dL_tells_469 : decode cL_tells 469 = .ok (.invokevirtual 200, 3) := by decide +kernel
theorem dL_tells_472 : decode cL_tells 472 = .ok (.bipush (-9), 2) := by decide +kernel
theorem dL_tells_474 : decode cL_tells 474 = .ok (.if_icmp .ne 7, 3) := by decide +kernel
theorem dL_tells_477 : decode cL_tells 477 = .ok (.iconst 1, 1) := by decide +kernel
theorem dL_tells_478 : decode cL_tells 478 = .ok (.goto 4, 3) := by decide +kernel
theorem dL_tells_481 : decode cL_tells 481 = .ok (.iconst 0, 1) := by decide +kernel
theorem dL_tells_482 : decode cL_tells 482 = .ok (.ireturn, 1) := by decide +kernel
theorem dL_act_0 : decode cL_act 0 = .ok (.iload_n 2, 1) := by decide +kernel
theorem dL_act_1 : decode cL_act 1 = .ok (.iconst 4, 1) := by decide +kernel
theorem dL_act_2 : decode cL_act 2 = .ok (.irem, 1) := by decide +kernel
theorem dL_act_3 : decode cL_act 3 = .ok (.istore_n 3, 1) := by decide +kernel
theorem dL_act_4 : decode cL_act 4 = .ok (.iload_n 1, 1) := by decide +kernel
theorem dL_act_5 : decode cL_act 5 = .ok (.bipush 18, 2) := by decide +kernel
theorem dL_act_7 : decode cL_act 7 = .ok (.irem, 1) := by decide +kernel
theorem dL_act_8 : decode cL_act 8 = .ok (.tableswitch 156 0 9 #[56, 56, 56, 61, 61, 67, 73, 99, 123, 128], 56) := by decide +kernel
theorem dL_act_64 : decode cL_act 64 = .ok (.aload_n 0, 1) := by decide +kernel
theorem dL_act_65 : decode cL_act 65 = .ok (.invokestatic 139, 3) := by decide +kernel
theorem dL_act_68 : decode cL_act 68 = .ok (.lreturn, 1) := by decide +kernel
theorem dL_act_69 : decode cL_act 69 = .ok (.aload_n 0, 1) := by decide +kernel
theorem dL_act_70 : decode cL_act 70 = .ok (.iload_n 3, 1) := by decide +kernel
theorem dL_act_71 : decode cL_act 71 = .ok (.invokestatic 130, 3) := by decide +kernel
theorem dL_act_74 : decode cL_act 74 = .ok (.lreturn, 1) := by decide +kernel
theorem dL_act_75 : decode cL_act 75 = .ok (.aload_n 0, 1) := by decide +kernel
theorem dL_act_76 : decode cL_act 76 = .ok (.iload_n 3, 1) := by decide +kernel
theorem dL_act_77 : decode cL_act 77 = .ok (.invokestatic 132, 3) := by decide +kernel
theorem dL_act_80 : decode cL_act 80 = .ok (.lreturn, 1) := by decide +kernel
theorem dL_act_81 : decode cL_act 81 = .ok (.aload_n 0, 1) := by decide +kernel
theorem dL_act_82 : decode cL_act 82 = .ok (.iload_n 2, 1) := by decide +kernel
theorem dL_act_83 : decode cL_act 83 = .ok (.iconst 4, 1) := by decide +kernel
theorem dL_act_84 : decode cL_act 84 = .ok (.idiv, 1) := by decide +kernel
theorem dL_act_85 : decode cL_act 85 = .ok (.bipush 10, 2) := by decide +kernel
theorem dL_act_87 : decode cL_act 87 = .ok (.irem, 1) := by decide +kernel
theorem dL_act_88 : decode cL_act 88 = .ok (.iload_n 2, 1) := by decide +kernel
theorem dL_act_89 : decode cL_act 89 = .ok (.bipush 40, 2) := by decide +kernel
theorem dL_act_91 : decode cL_act 91 = .ok (.idiv, 1) := by decide +kernel
theorem dL_act_92 : decode cL_act 92 = .ok (.bipush 10, 2) := by decide +kernel
theorem dL_act_94 : decode cL_act 94 = .ok (.irem, 1) := by decide +kernel
theorem dL_act_95 : decode cL_act 95 = .ok (.iload_n 2, 1) := by decide +kernel
theorem dL_act_96 : decode cL_act 96 = .ok (.sipush 400, 3) := by decide +kernel
theorem dL_act_99 : decode cL_act 99 = .ok (.idiv, 1) := by decide +kernel
theorem dL_act_100 : decode cL_act 100 = .ok (.bipush 10, 2) := by decide +kernel
theorem dL_act_102 : decode cL_act 102 = .ok (.irem, 1) := by decide +kernel
theorem dL_act_103 : decode cL_act 103 = .ok (.invokestatic 134, 3) := by decide +kernel
theorem dL_act_106 : decode cL_act 106 = .ok (.lreturn, 1) := by decide +kernel
theorem dL_act_107 : decode cL_act 107 = .ok (.iload_n 2, 1) := by decide +kernel
theorem dL_act_108 : decode cL_act 108 = .ok (.iconst 5, 1) := by decide +kernel
theorem dL_act_109 : decode cL_act 109 = .ok (.irem, 1) := by decide +kernel
theorem dL_act_110 : decode cL_act 110 = .ok (.ifCond .ne 16, 3) := by decide +kernel
theorem dL_act_113 : decode cL_act 113 = .ok (.aload_n 0, 1) := by decide +kernel
theorem dL_act_114 : decode cL_act 114 = .ok (.iload_n 2, 1) := by decide +kernel
theorem dL_act_115 : decode cL_act 115 = .ok (.iconst 4, 1) := by decide +kernel
theorem dL_act_116 : decode cL_act 116 = .ok (.idiv, 1) := by decide +kernel
theorem dL_act_117 : decode cL_act 117 = .ok (.bipush 10, 2) := by decide +kernel
theorem dL_act_119 : decode cL_act 119 = .ok (.irem, 1) := by decide +kernel
theorem dL_act_120 : decode cL_act 120 = .ok (.invokestatic 137, 3) := by decide +kernel
theorem dL_act_123 : decode cL_act 123 = .ok (.goto 7, 3) := by decide +kernel
theorem dL_act_126 : decode cL_act 126 = .ok (.aload_n 0, 1) := by decide +kernel
theorem dL_act_127 : decode cL_act 127 = .ok (.invokestatic 139, 3) := by decide +kernel
theorem dL_act_130 : decode cL_act 130 = .ok (.lreturn, 1) := by decide +kernel
theorem dL_act_131 : decode cL_act 131 = .ok (.aload_n 0, 1) := by decide +kernel
theorem dL_act_132 : decode cL_act 132 = .ok (.invokestatic 194, 3) := by decide +kernel
theorem dL_act_135 : decode cL_act 135 = .ok (.lreturn, 1) := by decide +kernel
theorem dL_act_136 : decode cL_act 136 = .ok (.iload_n 2, 1) := by decide +kernel
theorem dL_act_137 : decode cL_act 137 = .ok (.iconst 2, 1) := by decide +kernel
theorem dL_act_138 : decode cL_act 138 = .ok (.irem, 1) := by decide +kernel
theorem dL_act_139 : decode cL_act 139 = .ok (.ifCond .ne 15, 3) := by decide +kernel
theorem dL_act_142 : decode cL_act 142 = .ok (.aload_n 0, 1) := by decide +kernel
theorem dL_act_143 : decode cL_act 143 = .ok (.iload_n 2, 1) := by decide +kernel
theorem dL_act_144 : decode cL_act 144 = .ok (.iconst 2, 1) := by decide +kernel
theorem dL_act_145 : decode cL_act 145 = .ok (.idiv, 1) := by decide +kernel
theorem dL_act_146 : decode cL_act 146 = .ok (.iconst 1, 1) := by decide +kernel
theorem dL_act_147 : decode cL_act 147 = .ok (.iand, 1) := by decide +kernel
theorem dL_act_148 : decode cL_act 148 = .ok (.invokestatic 162, 3) := by decide +kernel
theorem dL_act_151 : decode cL_act 151 = .ok (.goto 12, 3) := by decide +kernel
theorem dL_act_154 : decode cL_act 154 = .ok (.aload_n 0, 1) := by decide +kernel
theorem dL_act_155 : decode cL_act 155 = .ok (.iload_n 2, 1) := by decide +kernel
theorem dL_act_156 : decode cL_act 156 = .ok (.iconst 2, 1) := by decide +kernel
theorem dL_act_157 : decode cL_act 157 = .ok (.idiv, 1) := by decide +kernel
theorem dL_act_158 : decode cL_act 158 = .ok (.iconst 1, 1) := by decide +kernel
theorem dL_act_159 : decode cL_act 159 = .ok (.iand, 1) := by decide +kernel
theorem dL_act_160 : decode cL_act 160 = .ok (.invokestatic 164, 3) := by decide +kernel
theorem dL_act_163 : decode cL_act 163 = .ok (.lreturn, 1) := by decide +kernel
theorem dL_act_164 : decode cL_act 164 = .ok (.iload_n 2, 1) := by decide +kernel
theorem dL_act_165 : decode cL_act 165 = .ok (.iconst 4, 1) := by decide +kernel
theorem dL_act_166 : decode cL_act 166 = .ok (.idiv, 1) := by decide +kernel
theorem dL_act_167 : decode cL_act 167 = .ok (.bipush 10, 2) := by decide +kernel
theorem dL_act_169 : decode cL_act 169 = .ok (.irem, 1) := by decide +kernel
theorem dL_act_170 : decode cL_act 170 = .ok (.istore 4, 2) := by decide +kernel
theorem dL_act_172 : decode cL_act 172 = .ok (.aload_n 0, 1) := by decide +kernel
theorem dL_act_173 : decode cL_act 173 = .ok (.iconst 0, 1) := by decide +kernel
theorem dL_act_174 : decode cL_act 174 = .ok (.invokestatic 106, 3) := by decide +kernel
theorem dL_act_177 : decode cL_act 177 = .ok (.l2i, 1) := by decide +kernel
theorem dL_act_178 : decode cL_act 178 = .ok (.istore 5, 2) := by decide +kernel
theorem dL_act_180 : decode cL_act 180 = .ok (.aload_n 0, 1) := by decide +kernel
theorem dL_act_181 : decode cL_act 181 = .ok (.iload_n 3, 1) := by decide +kernel
theorem dL_act_182 : decode cL_act 182 = .ok (.invokestatic 116, 3) := by decide +kernel
theorem dL_act_185 : decode cL_act 185 = .ok (.lstore 6, 2) := by decide +kernel
theorem dL_act_187 : decode cL_act 187 = .ok (.iconst 0, 1) := by decide +kernel
theorem dL_act_188 : decode cL_act 188 = .ok (.istore 8, 2) := by decide +kernel
theorem dL_act_190 : decode cL_act 190 = .ok (.iload 8, 2) := by decide +kernel
theorem dL_act_192 : decode cL_act 192 = .ok (.iload 5, 2) := by decide +kernel
theorem dL_act_194 : decode cL_act 194 = .ok (.if_icmp .ge 43, 3) := by decide +kernel
theorem dL_act_197 : decode cL_act 197 = .ok (.lload 6, 2) := by decide +kernel
theorem dL_act_199 : decode cL_act 199 = .ok (.lconst 1, 1) := by decide +kernel
theorem dL_act_200 : decode cL_act 200 = .ok (.ldc2_w 213, 3) := by decide +kernel
theorem dL_act_203 : decode cL_act 203 = .ok (.invokestatic 172, 3) := by decide +kernel
theorem dL_act_206 : decode cL_act 206 = .ok (.ifCond .eq 31, 3) := by decide +kernel
theorem dL_act_209 : decode cL_act 209 = .ok (.iload_n 2, 1) := by decide +kernel
theorem dL_act_210 : decode cL_act 210 = .ok (.iconst 3, 1) := by decide +kernel
theorem dL_act_211 : decode cL_act 211 = .ok (.irem, 1) := by decide +kernel
theorem dL_act_212 : decode cL_act 212 = .ok (.ifCond .le 25, 3) := by decide +kernel
theorem dL_act_215 : decode cL_act 215 = .ok (.lload 6, 2) := by decide +kernel
theorem dL_act_217 : decode cL_act 217 = .ok (.iload 4, 2) := by decide +kernel
theorem dL_act_219 : decode cL_act 219 = .ok (.iload 5, 2) := by decide +kernel
theorem dL_act_221 : decode cL_act 221 = .ok (.irem, 1) := by decide +kernel
theorem dL_act_222 : decode cL_act 222 = .ok (.invokestatic 147, 3) := by decide +kernel
theorem dL_act_225 : decode cL_act 225 = .ok (.ifCond .ne 12, 3) := by decide +kernel
theorem dL_act_228 : decode cL_act 228 = .ok (.iinc 4 1, 3) := by decide +kernel
theorem dL_act_231 : decode cL_act 231 = .ok (.iinc 8 1, 3) := by decide +kernel
theorem dL_act_234 : decode cL_act 234 = .ok (.goto (-44), 3) := by decide +kernel
theorem dL_act_237 : decode cL_act 237 = .ok (.aload_n 0, 1) := by decide +kernel
theorem dL_act_238 : decode cL_act 238 = .ok (.iload_n 3, 1) := by decide +kernel
theorem dL_act_239 : decode cL_act 239 = .ok (.iload 4, 2) := by decide +kernel
theorem dL_act_241 : decode cL_act 241 = .ok (.iload 5, 2) := by decide +kernel
theorem dL_act_243 : decode cL_act 243 = .ok (.irem, 1) := by decide +kernel
theorem dL_act_244 : decode cL_act 244 = .ok (.invokestatic 128, 3) := by decide +kernel
theorem dL_act_247 : decode cL_act 247 = .ok (.lreturn, 1) := by decide +kernel
theorem dL_law_0 : decode cL_law 0 = .ok (.new 10, 3) := by decide +kernel
theorem dL_law_3 : decode cL_law 3 = .ok (.dup, 1) := by decide +kernel
theorem dL_law_4 : decode cL_law 4 = .ok (.invokespecial 215, 3) := by decide +kernel
theorem dL_law_7 : decode cL_law 7 = .ok (.astore_n 1, 1) := by decide +kernel
theorem dL_law_8 : decode cL_law 8 = .ok (.new 10, 3) := by decide +kernel
theorem dL_law_11 : decode cL_law 11 = .ok (.dup, 1) := by decide +kernel
theorem dL_law_12 : decode cL_law 12 = .ok (.invokespecial 215, 3) := by decide +kernel
theorem dL_law_15 : decode cL_law 15 = .ok (.astore_n 2, 1) := by decide +kernel
theorem dL_law_16 : decode cL_law 16 = .ok (.aload_n 1, 1) := by decide +kernel
theorem dL_law_17 : decode cL_law 17 = .ok (.aload_n 2, 1) := by decide +kernel
theorem dL_law_18 : decode cL_law 18 = .ok (.aload_n 0, 1) := by decide +kernel
theorem dL_law_19 : decode cL_law 19 = .ok (.iconst 0, 1) := by decide +kernel
theorem dL_law_20 : decode cL_law 20 = .ok (.invokestatic 216, 3) := by decide +kernel
theorem dL_law_23 : decode cL_law 23 = .ok (.invokestatic 220, 3) := by decide +kernel
theorem dL_law_26 : decode cL_law 26 = .ok (.ifCond .eq 21, 3) := by decide +kernel
theorem dL_law_29 : decode cL_law 29 = .ok (.aload_n 1, 1) := by decide +kernel
theorem dL_law_30 : decode cL_law 30 = .ok (.invokestatic 224, 3) := by decide +kernel
theorem dL_law_33 : decode cL_law 33 = .ok (.ifCond .eq 14, 3) := by decide +kernel
theorem dL_law_36 : decode cL_law 36 = .ok (.aload_n 1, 1) := by decide +kernel
theorem dL_law_37 : decode cL_law 37 = .ok (.invokestatic 228, 3) := by decide +kernel
theorem dL_law_40 : decode cL_law 40 = .ok (.ifCond .eq 7, 3) := by decide +kernel
theorem dL_law_43 : decode cL_law 43 = .ok (.iconst 1, 1) := by decide +kernel
theorem dL_law_44 : decode cL_law 44 = .ok (.goto 4, 3) := by decide +kernel
theorem dL_law_47 : decode cL_law 47 = .ok (.iconst 0, 1) := by decide +kernel
theorem dL_law_48 : decode cL_law 48 = .ok (.istore_n 3, 1) := by decide +kernel
theorem dL_law_49 : decode cL_law 49 = .ok (.iconst 0, 1) := by decide +kernel
theorem dL_law_50 : decode cL_law 50 = .ok (.istore 4, 2) := by decide +kernel
theorem dL_law_52 : decode cL_law 52 = .ok (.iload 4, 2) := by decide +kernel
theorem dL_law_54 : decode cL_law 54 = .ok (.bipush 54, 2) := by decide +kernel
theorem dL_law_56 : decode cL_law 56 = .ok (.if_icmp .ge 221, 3) := by decide +kernel
theorem dL_law_59 : decode cL_law 59 = .ok (.iload_n 3, 1) := by decide +kernel
theorem dL_law_60 : decode cL_law 60 = .ok (.ifCond .eq 217, 3) := by decide +kernel
theorem dL_law_63 : decode cL_law 63 = .ok (.aload_n 0, 1) := by decide +kernel
theorem dL_law_64 : decode cL_law 64 = .ok (.iconst 2, 1) := by decide +kernel
theorem dL_law_65 : decode cL_law 65 = .ok (.iload 4, 2) := by decide +kernel
theorem dL_law_67 : decode cL_law 67 = .ok (.imul, 1) := by decide +kernel
theorem dL_law_68 : decode cL_law 68 = .ok (.invokestatic 216, 3) := by decide +kernel
theorem dL_law_71 : decode cL_law 71 = .ok (.istore 5, 2) := by decide +kernel
theorem dL_law_73 : decode cL_law 73 = .ok (.aload_n 0, 1) := by decide +kernel
theorem dL_law_74 : decode cL_law 74 = .ok (.iconst 2, 1) := by decide +kernel
theorem dL_law_75 : decode cL_law 75 = .ok (.iload 4, 2) := by decide +kernel
theorem dL_law_77 : decode cL_law 77 = .ok (.imul, 1) := by decide +kernel
theorem dL_law_78 : decode cL_law 78 = .ok (.iconst 1, 1) := by decide +kernel
theorem dL_law_79 : decode cL_law 79 = .ok (.iadd, 1) := by decide +kernel
theorem dL_law_80 : decode cL_law 80 = .ok (.invokestatic 216, 3) := by decide +kernel
theorem dL_law_83 : decode cL_law 83 = .ok (.istore 6, 2) := by decide +kernel
theorem dL_law_85 : decode cL_law 85 = .ok (.iload 4, 2) := by decide +kernel
theorem dL_law_87 : decode cL_law 87 = .ok (.bipush 27, 2) := by decide +kernel
theorem dL_law_89 : decode cL_law 89 = .ok (.irem, 1) := by decide +kernel
theorem dL_law_90 : decode cL_law 90 = .ok (.ifCond .ne 46, 3) := by decide +kernel
theorem dL_law_93 : decode cL_law 93 = .ok (.aload_n 1, 1) := by decide +kernel
theorem dL_law_94 : decode cL_law 94 = .ok (.iload 5, 2) := by decide +kernel
theorem dL_law_96 : decode cL_law 96 = .ok (.iload 6, 2) := by decide +kernel
theorem dL_law_98 : decode cL_law 98 = .ok (.invokestatic 231, 3) := by decide +kernel
theorem dL_law_101 : decode cL_law 101 = .ok (.ifCond .eq 30, 3) := by decide +kernel
theorem dL_law_104 : decode cL_law 104 = .ok (.aload_n 2, 1) := by decide +kernel
theorem dL_law_105 : decode cL_law 105 = .ok (.iload 5, 2) := by decide +kernel
theorem dL_law_107 : decode cL_law 107 = .ok (.iload 6, 2) := by decide +kernel
theorem dL_law_109 : decode cL_law 109 = .ok (.invokestatic 231, 3) := by decide +kernel
theorem dL_law_112 : decode cL_law 112 = .ok (.ifCond .eq 19, 3) := by decide +kernel
theorem dL_law_115 : decode cL_law 115 = .ok (.aload_n 1, 1) := by decide +kernel
theorem dL_law_116 : decode cL_law 116 = .ok (.invokestatic 235, 3) := by decide +kernel
theorem dL_law_119 : decode cL_law 119 = .ok (.aload_n 2, 1) := by decide +kernel
theorem dL_law_120 : decode cL_law 120 = .ok (.invokestatic 235, 3) := by decide +kernel
theorem dL_law_123 : decode cL_law 123 = .ok (.lcmp, 1) := by decide +kernel
theorem dL_law_124 : decode cL_law 124 = .ok (.ifCond .ne 7, 3) := by decide +kernel
theorem dL_law_127 : decode cL_law 127 = .ok (.iconst 1, 1) := by decide +kernel
theorem dL_law_128 : decode cL_law 128 = .ok (.goto 4, 3) := by decide +kernel
theorem dL_law_131 : decode cL_law 131 = .ok (.iconst 0, 1) := by decide +kernel
theorem dL_law_132 : decode cL_law 132 = .ok (.istore_n 3, 1) := by decide +kernel
theorem dL_law_133 : decode cL_law 133 = .ok (.goto 138, 3) := by decide +kernel
theorem dL_law_136 : decode cL_law 136 = .ok (.aload_n 1, 1) := by decide +kernel
theorem dL_law_137 : decode cL_law 137 = .ok (.iload 5, 2) := by decide +kernel
theorem dL_law_139 : decode cL_law 139 = .ok (.iload 6, 2) := by decide +kernel
theorem dL_law_141 : decode cL_law 141 = .ok (.invokestatic 237, 3) := by decide +kernel
theorem dL_law_144 : decode cL_law 144 = .ok (.aload_n 2, 1) := by decide +kernel
theorem dL_law_145 : decode cL_law 145 = .ok (.iload 5, 2) := by decide +kernel
theorem dL_law_147 : decode cL_law 147 = .ok (.iload 6, 2) := by decide +kernel
theorem dL_law_149 : decode cL_law 149 = .ok (.invokestatic 237, 3) := by decide +kernel
theorem dL_law_152 : decode cL_law 152 = .ok (.lcmp, 1) := by decide +kernel
theorem dL_law_153 : decode cL_law 153 = .ok (.ifCond .ne 7, 3) := by decide +kernel
theorem dL_law_156 : decode cL_law 156 = .ok (.iconst 1, 1) := by decide +kernel
theorem dL_law_157 : decode cL_law 157 = .ok (.goto 4, 3) := by decide +kernel
theorem dL_law_160 : decode cL_law 160 = .ok (.iconst 0, 1) := by decide +kernel
theorem dL_law_161 : decode cL_law 161 = .ok (.istore_n 3, 1) := by decide +kernel
theorem dL_law_162 : decode cL_law 162 = .ok (.iload 4, 2) := by decide +kernel
theorem dL_law_164 : decode cL_law 164 = .ok (.bipush 6, 2) := by decide +kernel
theorem dL_law_166 : decode cL_law 166 = .ok (.irem, 1) := by decide +kernel
theorem dL_law_167 : decode cL_law 167 = .ok (.ifCond .ne 27, 3) := by decide +kernel
theorem dL_law_170 : decode cL_law 170 = .ok (.iload_n 3, 1) := by decide +kernel
theorem dL_law_171 : decode cL_law 171 = .ok (.ifCond .eq 21, 3) := by decide +kernel
theorem dL_law_174 : decode cL_law 174 = .ok (.aload_n 2, 1) := by decide +kernel
theorem dL_law_175 : decode cL_law 175 = .ok (.invokestatic 224, 3) := by decide +kernel
theorem dL_law_178 : decode cL_law 178 = .ok (.ifCond .eq 14, 3) := by decide +kernel
theorem dL_law_181 : decode cL_law 181 = .ok (.aload_n 2, 1) := by decide +kernel
theorem dL_law_182 : decode cL_law 182 = .ok (.invokestatic 228, 3) := by decide +kernel
theorem dL_law_185 : decode cL_law 185 = .ok (.ifCond .eq 7, 3) := by decide +kernel
theorem dL_law_188 : decode cL_law 188 = .ok (.iconst 1, 1) := by decide +kernel
theorem dL_law_189 : decode cL_law 189 = .ok (.goto 4, 3) := by decide +kernel
theorem dL_law_192 : decode cL_law 192 = .ok (.iconst 0, 1) := by decide +kernel
theorem dL_law_193 : decode cL_law 193 = .ok (.istore_n 3, 1) := by decide +kernel
theorem dL_law_194 : decode cL_law 194 = .ok (.iload 4, 2) := by decide +kernel
theorem dL_law_196 : decode cL_law 196 = .ok (.bipush 9, 2) := by decide +kernel
theorem dL_law_198 : decode cL_law 198 = .ok (.irem, 1) := by decide +kernel
theorem dL_law_199 : decode cL_law 199 = .ok (.bipush 8, 2) := by decide +kernel
theorem dL_law_201 : decode cL_law 201 = .ok (.if_icmp .ne 42, 3) := by decide +kernel
theorem dL_law_204 : decode cL_law 204 = .ok (.iload_n 3, 1) := by decide +kernel
theorem dL_law_205 : decode cL_law 205 = .ok (.ifCond .eq 36, 3) := by decide +kernel
theorem dL_law_208 : decode cL_law 208 = .ok (.aload_n 2, 1) := by decide +kernel
theorem dL_law_209 : decode cL_law 209 = .ok (.iload 6, 2) := by decide +kernel
theorem dL_law_211 : decode cL_law 211 = .ok (.invokestatic 240, 3) := by decide +kernel
theorem dL_law_214 : decode cL_law 214 = .ok (.ifCond .eq 27, 3) := by decide +kernel
theorem dL_law_217 : decode cL_law 217 = .ok (.aload_n 1, 1) := by decide +kernel
theorem dL_law_218 : decode cL_law 218 = .ok (.iconst 1, 1) := by decide +kernel
theorem dL_law_219 : decode cL_law 219 = .ok (.invokestatic 162, 3) := by decide +kernel
theorem dL_law_222 : decode cL_law 222 = .ok (.lconst 0, 1) := by decide +kernel
theorem dL_law_223 : decode cL_law 223 = .ok (.lcmp, 1) := by decide +kernel
theorem dL_law_224 : decode cL_law 224 = .ok (.ifCond .lt 17, 3) := by decide +kernel
theorem dL_law_227 : decode cL_law 227 = .ok (.aload_n 1, 1) := by decide +kernel
theorem dL_law_228 : decode cL_law 228 = .ok (.iconst 1, 1) := by decide +kernel
theorem dL_law_229 : decode cL_law 229 = .ok (.invokestatic 164, 3) := by decide +kernel
theorem dL_law_232 : decode cL_law 232 = .ok (.lconst 0, 1) := by decide +kernel
theorem dL_law_233 : decode cL_law 233 = .ok (.lcmp, 1) := by decide +kernel
theorem dL_law_234 : decode cL_law 234 = .ok (.ifCond .lt 7, 3) := by decide +kernel
theorem dL_law_237 : decode cL_law 237 = .ok (.iconst 1, 1) := by decide +kernel
theorem dL_law_238 : decode cL_law 238 = .ok (.goto 4, 3) := by decide +kernel
theorem dL_law_241 : decode cL_law 241 = .ok (.iconst 0, 1) := by decide +kernel
theorem dL_law_242 : decode cL_law 242 = .ok (.istore_n 3, 1) := by decide +kernel
theorem dL_law_243 : decode cL_law 243 = .ok (.iload_n 3, 1) := by decide +kernel
theorem dL_law_244 : decode cL_law 244 = .ok (.ifCond .eq 25, 3) := by decide +kernel
theorem dL_law_247 : decode cL_law 247 = .ok (.iload 4, 2) := by decide +kernel
theorem dL_law_249 : decode cL_law 249 = .ok (.bipush 6, 2) := by decide +kernel
theorem dL_law_251 : decode cL_law 251 = .ok (.irem, 1) := by decide +kernel
theorem dL_law_252 : decode cL_law 252 = .ok (.ifCond .gt 13, 3) := by decide +kernel
theorem dL_law_255 : decode cL_law 255 = .ok (.aload_n 1, 1) := by decide +kernel
theorem dL_law_256 : decode cL_law 256 = .ok (.aload_n 2, 1) := by decide +kernel
theorem dL_law_257 : decode cL_law 257 = .ok (.iload 6, 2) := by decide +kernel
theorem dL_law_259 : decode cL_law 259 = .ok (.invokestatic 220, 3) := by decide +kernel
theorem dL_law_262 : decode cL_law 262 = .ok (.ifCond .eq 7, 3) := by decide +kernel
theorem dL_law_265 : decode cL_law 265 = .ok (.iconst 1, 1) := by decide +kernel
theorem dL_law_266 : decode cL_law 266 = .ok (.goto 4, 3) := by decide +kernel
theorem dL_law_269 : decode cL_law 269 = .ok (.iconst 0, 1) := by decide +kernel
theorem dL_law_270 : decode cL_law 270 = .ok (.istore_n 3, 1) := by decide +kernel
theorem dL_law_271 : decode cL_law 271 = .ok (.iinc 4 1, 3) := by decide +kernel
theorem dL_law_274 : decode cL_law 274 = .ok (.goto (-222), 3) := by decide +kernel
theorem dL_law_277 : decode cL_law 277 = .ok (.iload_n 3, 1) := by decide +kernel
theorem dL_law_278 : decode cL_law 278 = .ok (.ifCond .eq 17, 3) := by decide +kernel
theorem dL_law_281 : decode cL_law 281 = .ok (.aload_n 1, 1) := by decide +kernel
theorem dL_law_282 : decode cL_law 282 = .ok (.aload_n 2, 1) := by decide +kernel
theorem dL_law_283 : decode cL_law 283 = .ok (.ldc 243, 2) := by decide +kernel
theorem dL_law_285 : decode cL_law 285 = .ok (.invokestatic 220, 3) := by decide +kernel
theorem dL_law_288 : decode cL_law 288 = .ok (.ifCond .eq 7, 3) := by decide +kernel
theorem dL_law_291 : decode cL_law 291 = .ok (.iconst 1, 1) := by decide +kernel
theorem dL_law_292 : decode cL_law 292 = .ok (.goto 4, 3) := by decide +kernel
theorem dL_law_295 : decode cL_law 295 = .ok (.iconst 0, 1) := by decide +kernel
theorem dL_law_296 : decode cL_law 296 = .ok (.ireturn, 1) := by decide +kernel
