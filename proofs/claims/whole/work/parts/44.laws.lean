abbrev w_Law_feed : List Cond := .codeWith y_Law_feed b_Law_feed 6 (some .int) [(0, 11, 14, 13), (0, 11, 18, 15)] :: lw_tb
theorem kc_feed : (.codeWith y_Law_feed b_Law_feed 6 (some .int) [(0, 11, 14, 13), (0, 11, 18, 15)] : Cond) ∈ lw_tb := tb_in (List.mem_of_getElem? (i := 229) (by decide +kernel)) (by decide +kernel)
theorem d_Law_feed_0 : decode b_Law_feed 0 = .ok (.aload 4, 2) := by decide +kernel
theorem d_Law_feed_2 : decode b_Law_feed 2 = .ok (.iconst 0, 1) := by decide +kernel
theorem d_Law_feed_3 : decode b_Law_feed 3 = .ok (.aload_n 0, 1) := by decide +kernel
theorem d_Law_feed_4 : decode b_Law_feed 4 = .ok (.iload_n 1, 1) := by decide +kernel
theorem d_Law_feed_5 : decode b_Law_feed 5 = .ok (.lload_n 2, 1) := by decide +kernel
theorem d_Law_feed_6 : decode b_Law_feed 6 = .ok (.invokevirtual 7, 3) := by decide +kernel
theorem d_Law_feed_9 : decode b_Law_feed 9 = .ok (.i2l, 1) := by decide +kernel
theorem d_Law_feed_10 : decode b_Law_feed 10 = .ok (.lastore, 1) := by decide +kernel
theorem d_Law_feed_11 : decode b_Law_feed 11 = .ok (.goto 11, 3) := by decide +kernel
theorem d_Law_feed_14 : decode b_Law_feed 14 = .ok (.astore 5, 2) := by decide +kernel
theorem d_Law_feed_16 : decode b_Law_feed 16 = .ok (.iconst 1, 1) := by decide +kernel
theorem d_Law_feed_17 : decode b_Law_feed 17 = .ok (.ireturn, 1) := by decide +kernel
theorem d_Law_feed_18 : decode b_Law_feed 18 = .ok (.astore 5, 2) := by decide +kernel
theorem d_Law_feed_20 : decode b_Law_feed 20 = .ok (.iconst 2, 1) := by decide +kernel
theorem d_Law_feed_21 : decode b_Law_feed 21 = .ok (.ireturn, 1) := by decide +kernel
theorem d_Law_feed_22 : decode b_Law_feed 22 = .ok (.iconst 0, 1) := by decide +kernel
theorem d_Law_feed_23 : decode b_Law_feed 23 = .ok (.ireturn, 1) := by decide +kernel
abbrev w_Law_make : List Cond := .codeWith y_Law_make b_Law_make 6 (some .int) [(0, 12, 15, 13)] :: lw_tb
theorem kc_make : (.codeWith y_Law_make b_Law_make 6 (some .int) [(0, 12, 15, 13)] : Cond) ∈ lw_tb := tb_in (List.mem_of_getElem? (i := 322) (by decide +kernel)) (by decide +kernel)
theorem d_Law_make_0 : decode b_Law_make 0 = .ok (.aload 4, 2) := by decide +kernel
theorem d_Law_make_2 : decode b_Law_make 2 = .ok (.iconst 0, 1) := by decide +kernel
theorem d_Law_make_3 : decode b_Law_make 3 = .ok (.aload_n 0, 1) := by decide +kernel
theorem d_Law_make_4 : decode b_Law_make 4 = .ok (.iload_n 1, 1) := by decide +kernel
theorem d_Law_make_5 : decode b_Law_make 5 = .ok (.iload_n 2, 1) := by decide +kernel
theorem d_Law_make_6 : decode b_Law_make 6 = .ok (.iload_n 3, 1) := by decide +kernel
theorem d_Law_make_7 : decode b_Law_make 7 = .ok (.invokevirtual 17, 3) := by decide +kernel
theorem d_Law_make_10 : decode b_Law_make 10 = .ok (.i2l, 1) := by decide +kernel
theorem d_Law_make_11 : decode b_Law_make 11 = .ok (.lastore, 1) := by decide +kernel
theorem d_Law_make_12 : decode b_Law_make 12 = .ok (.goto 7, 3) := by decide +kernel
theorem d_Law_make_15 : decode b_Law_make 15 = .ok (.astore 5, 2) := by decide +kernel
theorem d_Law_make_17 : decode b_Law_make 17 = .ok (.iconst 1, 1) := by decide +kernel
theorem d_Law_make_18 : decode b_Law_make 18 = .ok (.ireturn, 1) := by decide +kernel
theorem d_Law_make_19 : decode b_Law_make 19 = .ok (.iconst 0, 1) := by decide +kernel
theorem d_Law_make_20 : decode b_Law_make 20 = .ok (.ireturn, 1) := by decide +kernel
abbrev w_Law_find : List Cond := .codeWith y_Law_find b_Law_find 5 (some .int) [(0, 10, 13, 13)] :: lw_tb
theorem kc_find : (.codeWith y_Law_find b_Law_find 5 (some .int) [(0, 10, 13, 13)] : Cond) ∈ lw_tb := tb_in (List.mem_of_getElem? (i := 441) (by decide +kernel)) (by decide +kernel)
theorem d_Law_find_0 : decode b_Law_find 0 = .ok (.aload_n 3, 1) := by decide +kernel
theorem d_Law_find_1 : decode b_Law_find 1 = .ok (.iconst 0, 1) := by decide +kernel
theorem d_Law_find_2 : decode b_Law_find 2 = .ok (.aload_n 0, 1) := by decide +kernel
theorem d_Law_find_3 : decode b_Law_find 3 = .ok (.iload_n 1, 1) := by decide +kernel
theorem d_Law_find_4 : decode b_Law_find 4 = .ok (.iload_n 2, 1) := by decide +kernel
theorem d_Law_find_5 : decode b_Law_find 5 = .ok (.invokevirtual 21, 3) := by decide +kernel
theorem d_Law_find_8 : decode b_Law_find 8 = .ok (.i2l, 1) := by decide +kernel
theorem d_Law_find_9 : decode b_Law_find 9 = .ok (.lastore, 1) := by decide +kernel
theorem d_Law_find_10 : decode b_Law_find 10 = .ok (.goto 7, 3) := by decide +kernel
theorem d_Law_find_13 : decode b_Law_find 13 = .ok (.astore 4, 2) := by decide +kernel
theorem d_Law_find_15 : decode b_Law_find 15 = .ok (.iconst 1, 1) := by decide +kernel
theorem d_Law_find_16 : decode b_Law_find 16 = .ok (.ireturn, 1) := by decide +kernel
theorem d_Law_find_17 : decode b_Law_find 17 = .ok (.iconst 0, 1) := by decide +kernel
theorem d_Law_find_18 : decode b_Law_find 18 = .ok (.ireturn, 1) := by decide +kernel
abbrev w_Law_write : List Cond := .codeWith y_Law_write b_Law_write 5 (some .int) [(0, 10, 13, 13)] :: lw_tb
theorem kc_write : (.codeWith y_Law_write b_Law_write 5 (some .int) [(0, 10, 13, 13)] : Cond) ∈ lw_tb := tb_in (List.mem_of_getElem? (i := 457) (by decide +kernel)) (by decide +kernel)
theorem d_Law_write_0 : decode b_Law_write 0 = .ok (.aload_n 3, 1) := by decide +kernel
theorem d_Law_write_1 : decode b_Law_write 1 = .ok (.iconst 0, 1) := by decide +kernel
theorem d_Law_write_2 : decode b_Law_write 2 = .ok (.aload_n 0, 1) := by decide +kernel
theorem d_Law_write_3 : decode b_Law_write 3 = .ok (.iload_n 1, 1) := by decide +kernel
theorem d_Law_write_4 : decode b_Law_write 4 = .ok (.iload_n 2, 1) := by decide +kernel
theorem d_Law_write_5 : decode b_Law_write 5 = .ok (.invokevirtual 25, 3) := by decide +kernel
theorem d_Law_write_8 : decode b_Law_write 8 = .ok (.i2l, 1) := by decide +kernel
theorem d_Law_write_9 : decode b_Law_write 9 = .ok (.lastore, 1) := by decide +kernel
theorem d_Law_write_10 : decode b_Law_write 10 = .ok (.goto 7, 3) := by decide +kernel
theorem d_Law_write_13 : decode b_Law_write 13 = .ok (.astore 4, 2) := by decide +kernel
theorem d_Law_write_15 : decode b_Law_write 15 = .ok (.iconst 1, 1) := by decide +kernel
theorem d_Law_write_16 : decode b_Law_write 16 = .ok (.ireturn, 1) := by decide +kernel
theorem d_Law_write_17 : decode b_Law_write 17 = .ok (.iconst 0, 1) := by decide +kernel
theorem d_Law_write_18 : decode b_Law_write 18 = .ok (.ireturn, 1) := by decide +kernel
abbrev w_Law_cut : List Cond := .codeWith y_Law_cut b_Law_cut 5 (some .int) [(0, 10, 13, 13)] :: lw_tb
theorem kc_cut : (.codeWith y_Law_cut b_Law_cut 5 (some .int) [(0, 10, 13, 13)] : Cond) ∈ lw_tb := tb_in (List.mem_of_getElem? (i := 471) (by decide +kernel)) (by decide +kernel)
theorem d_Law_cut_0 : decode b_Law_cut 0 = .ok (.aload_n 3, 1) := by decide +kernel
theorem d_Law_cut_1 : decode b_Law_cut 1 = .ok (.iconst 0, 1) := by decide +kernel
theorem d_Law_cut_2 : decode b_Law_cut 2 = .ok (.aload_n 0, 1) := by decide +kernel
theorem d_Law_cut_3 : decode b_Law_cut 3 = .ok (.iload_n 1, 1) := by decide +kernel
theorem d_Law_cut_4 : decode b_Law_cut 4 = .ok (.iload_n 2, 1) := by decide +kernel
theorem d_Law_cut_5 : decode b_Law_cut 5 = .ok (.invokevirtual 28, 3) := by decide +kernel
theorem d_Law_cut_8 : decode b_Law_cut 8 = .ok (.i2l, 1) := by decide +kernel
theorem d_Law_cut_9 : decode b_Law_cut 9 = .ok (.lastore, 1) := by decide +kernel
theorem d_Law_cut_10 : decode b_Law_cut 10 = .ok (.goto 7, 3) := by decide +kernel
theorem d_Law_cut_13 : decode b_Law_cut 13 = .ok (.astore 4, 2) := by decide +kernel
theorem d_Law_cut_15 : decode b_Law_cut 15 = .ok (.iconst 1, 1) := by decide +kernel
theorem d_Law_cut_16 : decode b_Law_cut 16 = .ok (.ireturn, 1) := by decide +kernel
theorem d_Law_cut_17 : decode b_Law_cut 17 = .ok (.iconst 0, 1) := by decide +kernel
theorem d_Law_cut_18 : decode b_Law_cut 18 = .ok (.ireturn, 1) := by decide +kernel
abbrev w_Law_read : List Cond := .codeWith y_Law_read b_Law_read 5 (some .int) [(0, 9, 12, 13), (0, 9, 16, 35)] :: lw_tb
theorem kc_read : (.codeWith y_Law_read b_Law_read 5 (some .int) [(0, 9, 12, 13), (0, 9, 16, 35)] : Cond) ∈ lw_tb := tb_in (List.mem_of_getElem? (i := 478) (by decide +kernel)) (by decide +kernel)
theorem d_Law_read_0 : decode b_Law_read 0 = .ok (.aload_n 3, 1) := by decide +kernel
theorem d_Law_read_1 : decode b_Law_read 1 = .ok (.iconst 0, 1) := by decide +kernel
theorem d_Law_read_2 : decode b_Law_read 2 = .ok (.aload_n 0, 1) := by decide +kernel
theorem d_Law_read_3 : decode b_Law_read 3 = .ok (.iload_n 1, 1) := by decide +kernel
theorem d_Law_read_4 : decode b_Law_read 4 = .ok (.iload_n 2, 1) := by decide +kernel
theorem d_Law_read_5 : decode b_Law_read 5 = .ok (.invokevirtual 31, 3) := by decide +kernel
theorem d_Law_read_8 : decode b_Law_read 8 = .ok (.lastore, 1) := by decide +kernel
theorem d_Law_read_9 : decode b_Law_read 9 = .ok (.goto 11, 3) := by decide +kernel
theorem d_Law_read_12 : decode b_Law_read 12 = .ok (.astore 4, 2) := by decide +kernel
theorem d_Law_read_14 : decode b_Law_read 14 = .ok (.iconst 1, 1) := by decide +kernel
theorem d_Law_read_15 : decode b_Law_read 15 = .ok (.ireturn, 1) := by decide +kernel
theorem d_Law_read_16 : decode b_Law_read 16 = .ok (.astore 4, 2) := by decide +kernel
theorem d_Law_read_18 : decode b_Law_read 18 = .ok (.iconst 2, 1) := by decide +kernel
theorem d_Law_read_19 : decode b_Law_read 19 = .ok (.ireturn, 1) := by decide +kernel
theorem d_Law_read_20 : decode b_Law_read 20 = .ok (.iconst 0, 1) := by decide +kernel
theorem d_Law_read_21 : decode b_Law_read 21 = .ok (.ireturn, 1) := by decide +kernel
abbrev w_Law_move : List Cond := .codeWith y_Law_move b_Law_move 7 (some .int) [(0, 14, 17, 13)] :: lw_tb
theorem kc_move : (.codeWith y_Law_move b_Law_move 7 (some .int) [(0, 14, 17, 13)] : Cond) ∈ lw_tb := tb_in (List.mem_of_getElem? (i := 503) (by decide +kernel)) (by decide +kernel)
theorem d_Law_move_0 : decode b_Law_move 0 = .ok (.aload 5, 2) := by decide +kernel
theorem d_Law_move_2 : decode b_Law_move 2 = .ok (.iconst 0, 1) := by decide +kernel
theorem d_Law_move_3 : decode b_Law_move 3 = .ok (.aload_n 0, 1) := by decide +kernel
theorem d_Law_move_4 : decode b_Law_move 4 = .ok (.iload_n 1, 1) := by decide +kernel
theorem d_Law_move_5 : decode b_Law_move 5 = .ok (.iload_n 2, 1) := by decide +kernel
theorem d_Law_move_6 : decode b_Law_move 6 = .ok (.iload_n 3, 1) := by decide +kernel
theorem d_Law_move_7 : decode b_Law_move 7 = .ok (.iload 4, 2) := by decide +kernel
theorem d_Law_move_9 : decode b_Law_move 9 = .ok (.invokevirtual 37, 3) := by decide +kernel
theorem d_Law_move_12 : decode b_Law_move 12 = .ok (.i2l, 1) := by decide +kernel
theorem d_Law_move_13 : decode b_Law_move 13 = .ok (.lastore, 1) := by decide +kernel
theorem d_Law_move_14 : decode b_Law_move 14 = .ok (.goto 7, 3) := by decide +kernel
theorem d_Law_move_17 : decode b_Law_move 17 = .ok (.astore 6, 2) := by decide +kernel
theorem d_Law_move_19 : decode b_Law_move 19 = .ok (.iconst 1, 1) := by decide +kernel
theorem d_Law_move_20 : decode b_Law_move 20 = .ok (.ireturn, 1) := by decide +kernel
theorem d_Law_move_21 : decode b_Law_move 21 = .ok (.iconst 0, 1) := by decide +kernel
theorem d_Law_move_22 : decode b_Law_move 22 = .ok (.ireturn, 1) := by decide +kernel
abbrev w_Law_remove : List Cond := .codeWith y_Law_remove b_Law_remove 5 (some .int) [(0, 10, 13, 13)] :: lw_tb
theorem kc_remove : (.codeWith y_Law_remove b_Law_remove 5 (some .int) [(0, 10, 13, 13)] : Cond) ∈ lw_tb := tb_in (List.mem_of_getElem? (i := 542) (by decide +kernel)) (by decide +kernel)
theorem d_Law_remove_0 : decode b_Law_remove 0 = .ok (.aload_n 3, 1) := by decide +kernel
theorem d_Law_remove_1 : decode b_Law_remove 1 = .ok (.iconst 0, 1) := by decide +kernel
theorem d_Law_remove_2 : decode b_Law_remove 2 = .ok (.aload_n 0, 1) := by decide +kernel
theorem d_Law_remove_3 : decode b_Law_remove 3 = .ok (.iload_n 1, 1) := by decide +kernel
theorem d_Law_remove_4 : decode b_Law_remove 4 = .ok (.iload_n 2, 1) := by decide +kernel
theorem d_Law_remove_5 : decode b_Law_remove 5 = .ok (.invokevirtual 41, 3) := by decide +kernel
theorem d_Law_remove_8 : decode b_Law_remove 8 = .ok (.i2l, 1) := by decide +kernel
theorem d_Law_remove_9 : decode b_Law_remove 9 = .ok (.lastore, 1) := by decide +kernel
theorem d_Law_remove_10 : decode b_Law_remove 10 = .ok (.goto 7, 3) := by decide +kernel
theorem d_Law_remove_13 : decode b_Law_remove 13 = .ok (.astore 4, 2) := by decide +kernel
theorem d_Law_remove_15 : decode b_Law_remove 15 = .ok (.iconst 1, 1) := by decide +kernel
theorem d_Law_remove_16 : decode b_Law_remove 16 = .ok (.ireturn, 1) := by decide +kernel
theorem d_Law_remove_17 : decode b_Law_remove 17 = .ok (.iconst 0, 1) := by decide +kernel
theorem d_Law_remove_18 : decode b_Law_remove 18 = .ok (.ireturn, 1) := by decide +kernel
abbrev w_Law_node : List Cond := .codeWith y_Law_node b_Law_node 5 (some .int) [(0, 10, 13, 13), (0, 10, 17, 35)] :: lw_tb
theorem kc_node : (.codeWith y_Law_node b_Law_node 5 (some .int) [(0, 10, 13, 13), (0, 10, 17, 35)] : Cond) ∈ lw_tb := tb_in (List.mem_of_getElem? (i := 549) (by decide +kernel)) (by decide +kernel)
theorem d_Law_node_0 : decode b_Law_node 0 = .ok (.aload_n 3, 1) := by decide +kernel
theorem d_Law_node_1 : decode b_Law_node 1 = .ok (.iconst 0, 1) := by decide +kernel
theorem d_Law_node_2 : decode b_Law_node 2 = .ok (.aload_n 0, 1) := by decide +kernel
theorem d_Law_node_3 : decode b_Law_node 3 = .ok (.iload_n 1, 1) := by decide +kernel
theorem d_Law_node_4 : decode b_Law_node 4 = .ok (.iload_n 2, 1) := by decide +kernel
theorem d_Law_node_5 : decode b_Law_node 5 = .ok (.invokevirtual 44, 3) := by decide +kernel
theorem d_Law_node_8 : decode b_Law_node 8 = .ok (.i2l, 1) := by decide +kernel
theorem d_Law_node_9 : decode b_Law_node 9 = .ok (.lastore, 1) := by decide +kernel
theorem d_Law_node_10 : decode b_Law_node 10 = .ok (.goto 11, 3) := by decide +kernel
theorem d_Law_node_13 : decode b_Law_node 13 = .ok (.astore 4, 2) := by decide +kernel
theorem d_Law_node_15 : decode b_Law_node 15 = .ok (.iconst 1, 1) := by decide +kernel
theorem d_Law_node_16 : decode b_Law_node 16 = .ok (.ireturn, 1) := by decide +kernel
theorem d_Law_node_17 : decode b_Law_node 17 = .ok (.astore 4, 2) := by decide +kernel
theorem d_Law_node_19 : decode b_Law_node 19 = .ok (.iconst 2, 1) := by decide +kernel
theorem d_Law_node_20 : decode b_Law_node 20 = .ok (.ireturn, 1) := by decide +kernel
theorem d_Law_node_21 : decode b_Law_node 21 = .ok (.iconst 0, 1) := by decide +kernel
theorem d_Law_node_22 : decode b_Law_node 22 = .ok (.ireturn, 1) := by decide +kernel
abbrev w_Law_at : List Cond := .codeWith y_Law_at b_Law_at 6 (some .int) [(0, 12, 15, 13)] :: lw_tb
theorem kc_at : (.codeWith y_Law_at b_Law_at 6 (some .int) [(0, 12, 15, 13)] : Cond) ∈ lw_tb := tb_in (List.mem_of_getElem? (i := 560) (by decide +kernel)) (by decide +kernel)
theorem d_Law_at_0 : decode b_Law_at 0 = .ok (.aload 4, 2) := by decide +kernel
theorem d_Law_at_2 : decode b_Law_at 2 = .ok (.iconst 0, 1) := by decide +kernel
theorem d_Law_at_3 : decode b_Law_at 3 = .ok (.aload_n 0, 1) := by decide +kernel
theorem d_Law_at_4 : decode b_Law_at 4 = .ok (.iload_n 1, 1) := by decide +kernel
theorem d_Law_at_5 : decode b_Law_at 5 = .ok (.iload_n 2, 1) := by decide +kernel
theorem d_Law_at_6 : decode b_Law_at 6 = .ok (.iload_n 3, 1) := by decide +kernel
theorem d_Law_at_7 : decode b_Law_at 7 = .ok (.invokevirtual 47, 3) := by decide +kernel
theorem d_Law_at_10 : decode b_Law_at 10 = .ok (.i2l, 1) := by decide +kernel
theorem d_Law_at_11 : decode b_Law_at 11 = .ok (.lastore, 1) := by decide +kernel
theorem d_Law_at_12 : decode b_Law_at 12 = .ok (.goto 7, 3) := by decide +kernel
theorem d_Law_at_15 : decode b_Law_at 15 = .ok (.astore 5, 2) := by decide +kernel
theorem d_Law_at_17 : decode b_Law_at 17 = .ok (.iconst 1, 1) := by decide +kernel
theorem d_Law_at_18 : decode b_Law_at 18 = .ok (.ireturn, 1) := by decide +kernel
theorem d_Law_at_19 : decode b_Law_at 19 = .ok (.iconst 0, 1) := by decide +kernel
theorem d_Law_at_20 : decode b_Law_at 20 = .ok (.ireturn, 1) := by decide +kernel
abbrev w_Law_changed : List Cond := .codeWith y_Law_changed b_Law_changed 4 (some .int) [(0, 9, 12, 35)] :: lw_tb
theorem kc_changed : (.codeWith y_Law_changed b_Law_changed 4 (some .int) [(0, 9, 12, 35)] : Cond) ∈ lw_tb := tb_in (List.mem_of_getElem? (i := 576) (by decide +kernel)) (by decide +kernel)
theorem d_Law_changed_0 : decode b_Law_changed 0 = .ok (.aload_n 2, 1) := by decide +kernel
theorem d_Law_changed_1 : decode b_Law_changed 1 = .ok (.iconst 0, 1) := by decide +kernel
theorem d_Law_changed_2 : decode b_Law_changed 2 = .ok (.aload_n 0, 1) := by decide +kernel
theorem d_Law_changed_3 : decode b_Law_changed 3 = .ok (.iload_n 1, 1) := by decide +kernel
theorem d_Law_changed_4 : decode b_Law_changed 4 = .ok (.invokevirtual 50, 3) := by decide +kernel
theorem d_Law_changed_7 : decode b_Law_changed 7 = .ok (.i2l, 1) := by decide +kernel
theorem d_Law_changed_8 : decode b_Law_changed 8 = .ok (.lastore, 1) := by decide +kernel
theorem d_Law_changed_9 : decode b_Law_changed 9 = .ok (.goto 6, 3) := by decide +kernel
theorem d_Law_changed_12 : decode b_Law_changed 12 = .ok (.astore_n 3, 1) := by decide +kernel
theorem d_Law_changed_13 : decode b_Law_changed 13 = .ok (.iconst 1, 1) := by decide +kernel
theorem d_Law_changed_14 : decode b_Law_changed 14 = .ok (.ireturn, 1) := by decide +kernel
theorem d_Law_changed_15 : decode b_Law_changed 15 = .ok (.iconst 0, 1) := by decide +kernel
theorem d_Law_changed_16 : decode b_Law_changed 16 = .ok (.ireturn, 1) := by decide +kernel
abbrev w_Law_look : List Cond := .codeWith y_Law_look b_Law_look 4 (some .int) [(0, 9, 12, 35)] :: lw_tb
theorem kc_look : (.codeWith y_Law_look b_Law_look 4 (some .int) [(0, 9, 12, 35)] : Cond) ∈ lw_tb := tb_in (List.mem_of_getElem? (i := 588) (by decide +kernel)) (by decide +kernel)
theorem d_Law_look_0 : decode b_Law_look 0 = .ok (.aload_n 2, 1) := by decide +kernel
theorem d_Law_look_1 : decode b_Law_look 1 = .ok (.iconst 0, 1) := by decide +kernel
theorem d_Law_look_2 : decode b_Law_look 2 = .ok (.aload_n 0, 1) := by decide +kernel
theorem d_Law_look_3 : decode b_Law_look 3 = .ok (.iload_n 1, 1) := by decide +kernel
theorem d_Law_look_4 : decode b_Law_look 4 = .ok (.invokevirtual 54, 3) := by decide +kernel
theorem d_Law_look_7 : decode b_Law_look 7 = .ok (.i2l, 1) := by decide +kernel
theorem d_Law_look_8 : decode b_Law_look 8 = .ok (.lastore, 1) := by decide +kernel
theorem d_Law_look_9 : decode b_Law_look 9 = .ok (.goto 6, 3) := by decide +kernel
theorem d_Law_look_12 : decode b_Law_look 12 = .ok (.astore_n 3, 1) := by decide +kernel
theorem d_Law_look_13 : decode b_Law_look 13 = .ok (.iconst 1, 1) := by decide +kernel
theorem d_Law_look_14 : decode b_Law_look 14 = .ok (.ireturn, 1) := by decide +kernel
theorem d_Law_look_15 : decode b_Law_look 15 = .ok (.iconst 0, 1) := by decide +kernel
theorem d_Law_look_16 : decode b_Law_look 16 = .ok (.ireturn, 1) := by decide +kernel
set_option maxHeartbeats 4000000 in
set_option maxRecDepth 100000 in
theorem h_feed (l : Launch) (htr : l.stackTraces = false) (D : va_G) (g : Nat → Nat) (k : Nat → ClassId) (L : Nat) (hL0 : 96 ≤ L) (hL : L ≤ 768) (u : DSt) (f0 : Nat → Int32) (tl : Nat) (tp : Nat → Int32) (qo : Nat) (fo : Nat → Int64) (n : Nat) (v : Int64) (hn1 : 1 ≤ n) (hn2 : n ≤ 8) (ht0 : tl + n ≤ 512) : MuH l y_Law_feed w_Law_feed ({ frames := 8, cells := 1, slots := 6, locals := 134 }) [.ref (g 9), .int (nI n), .long (v), .ref qo] D cl5 (tyC k) (wX g k L u f0 tl tp qo fo) (wX g k L u f0 (tl + n) (fdT tp tl v n) qo (va_up fo 0 (nI (tl + n)).toInt64)) (nI 0) := by
  intro sz
  refine xx_ofWH (cc := b_Law_feed) (maxL := 6) (ret := (some .int)) (by decide) rfl ?_
  intro p9 e9 s m args9 below9 meth9 c9 s₁ B hml hv
  obtain ⟨rfl, ⟨hsz, hP, hK, hD0⟩, hX⟩ := hv
  have hx := B.exec
  have hb := B.bytes
  have hr := B.returns
  have hts := atoms_spec (ws := w_Law_feed) B.pre
  have hTB : ∀ w ∈ lw_tb, w.before _ s = true := fun w h => hts w (List.mem_cons_of_mem _ h)
  have hown : s.vm.findClass R_Law = some m.cls := findClass_of_methodNamed B.named
  have hlocks := B.notSynchronized
  have htab := vx_table (x := y_Law_feed) B (hts _ List.mem_cons_self)
  subst hsz
  have hD := hD0.self (sz := s.heap.size)
  generalize hAe : va_A (wX g k L u f0 tl tp qo fo) s.heap.size = A at hD ⊢
  have hA : ∀ q : Nat, s.heap.size ≤ q → A q := fun q h => by rw [← hAe]; exact Or.inr h
  have hS : va_S A s.heap s.heap [] := va_S.rf
  have hl := lv_entry ([.ref (g 9), .int (nI n), .long (v), .ref qo]) (n := 6) (Nat.le_of_ble_eq_true rfl)
  rw [lg_entry_eq]
  generalize (lg_sl ([.ref (g 9), .int (nI n), .long (v), .ref qo]) ++ List.replicate (6 - (lg_sl ([.ref (g 9), .int (nI n), .long (v), .ref qo])).length) Slot.unset).toArray = ls at hl ⊢
  have hl : lv_has ls 6 [(0, .ref (g 9)), (1, .int (nI n)), (2, .long (v)), (4, .ref qo)] := hl
  refine lv_aload hx hb d_Law_feed_0 (lv_at hl 3 rfl) ?_
  refine lv_iconst (v := nI 0) hx hb d_Law_feed_2 (by decide +kernel) ?_
  refine lv_aload_n hx hb d_Law_feed_3 rfl (lv_at hl 0 rfl) ?_
  refine lv_iload_n hx hb d_Law_feed_4 rfl (lv_at hl 1 rfl) ?_
  refine lv_lload_n hx hb d_Law_feed_5 rfl (lv_at hl 2 rfl) ?_
  refine gz_muI (As := [.int (nI n), .long (v)]) (rest := [.int (nI 0), .ref qo]) (wc := (wT g k L u f0 tl tp)) (w1 := (wT g k L u f0 (tl + n) (fdT tp tl v n))) (wr := ([(qo, .inl (k 0, 1, .inr (.inl fo)))])) ⟨hx, hb, hml, hown, hTB⟩ (c_Tree_feed l D g k L hL0 hL u f0 tl tp n v hn1 hn2 ht0) (cwV 2 hTB (gd_V k_232 k_233 k_234 k_51 k_235) rfl rfl rfl (by decide +kernel) ⟨Nat.le_of_ble_eq_true rfl, Nat.le_of_ble_eq_true rfl⟩) hK hP hD hA [0, 1, 2, 3, 4, 5, 6, 7, 8, 9, 10] [11] rfl rfl (by decide) rfl (by decide) (by decide) 0 rfl rfl rfl hl.1 rfl (Nat.le_of_ble_eq_true rfl) d_Law_feed_6 ⟨Nat.le_of_ble_eq_true rfl, Nat.le_of_ble_eq_true rfl⟩ hS (fun H locs hP hD hS => ?_)
  have hP : va_P D cl5 (wX g k L u f0 (tl + n) (fdT tp tl v n) qo fo) H := hP.sub [1, 2, 3, 4, 5, 6, 7, 8, 9, 10, 11, 0] rfl
  have hD : va_D A (wX g k L u f0 (tl + n) (fdT tp tl v n) qo fo) := hD.sub [1, 2, 3, 4, 5, 6, 7, 8, 9, 10, 11, 0] (by decide) rfl
  refine lv_i2l hx hb d_Law_feed_9 rfl ?_
  refine gz_last hx hb hK hP hD hS 11 0 rfl rfl (i := 0) (by omega) (by omega) d_Law_feed_10 (fun H locs hP hD hS => ?_)
  have hP : va_P D cl5 (wX g k L u f0 (tl + n) (fdT tp tl v n) qo (va_up (fo) 0 ((nI (tl + n)).toInt64))) H := hP
  have hD : va_D A (wX g k L u f0 (tl + n) (fdT tp tl v n) qo (va_up (fo) 0 ((nI (tl + n)).toInt64))) := hD
  refine lv_goto (tgt := 22) hx hb d_Law_feed_11 (by decide) ?_
  refine lv_iconst (v := nI 0) hx hb d_Law_feed_22 (by decide +kernel) ?_
  refine W.widen (k := 1) (n := 6) (Nat.le_of_ble_eq_true rfl) (Nat.le_of_ble_eq_true rfl) ?_
  have hP9 : va_P D cl5 (wX g k L u f0 (tl + n) (fdT tp tl v n) qo (va_up fo 0 (nI (tl + n)).toInt64)) H := hP
  have hD9 : va_D A (wX g k L u f0 (tl + n) (fdT tp tl v n) qo (va_up fo 0 (nI (tl + n)).toInt64)) := hD
  exact W.iret (v := nI 0) hx hb hr (fun tt9 ht9 hW9 => ⟨⟨_, (), rfl, rfl, ⟨by rw [ht9]; exact hP9, hD9⟩⟩, hS.F ht9⟩) hS.2.2 d_Law_feed_23
set_option maxHeartbeats 4000000 in
set_option maxRecDepth 100000 in
theorem h_make (l : Launch) (htr : l.stackTraces = false) (D : va_G) (g : Nat → Nat) (k : Nat → ClassId) (L : Nat) (hL0 : 96 ≤ L) (hL : L ≤ 768) (u : DSt) (f0 : Nat → Int32) (tl : Nat) (tp : Nat → Int32) (qo : Nat) (fo : Nat → Int64) (d w : Nat) (b : Bool) (hd0 : d < 64) (hw1 : 1 ≤ w) (hw2 : w ≤ 65535) : MuH l y_Law_make w_Law_make ({ frames := 9, cells := 1, slots := 6, locals := 229 }) [.ref (g 9), .int (nI d), .int (nI w), .int (zI (b)), .ref qo] D cl5 (tyC k) (wX g k L u f0 tl tp qo fo) (wX g k L ((mkC L u d w (if b then 2 else 1)).2) f0 tl tp qo (va_up fo 0 ((mkC L u d w (if b then 2 else 1)).1).toInt64)) (nI 0) := by
  intro sz
  refine xx_ofWH (cc := b_Law_make) (maxL := 6) (ret := (some .int)) (by decide) rfl ?_
  intro p9 e9 s m args9 below9 meth9 c9 s₁ B hml hv
  obtain ⟨rfl, ⟨hsz, hP, hK, hD0⟩, hX⟩ := hv
  have hx := B.exec
  have hb := B.bytes
  have hr := B.returns
  have hts := atoms_spec (ws := w_Law_make) B.pre
  have hTB : ∀ w ∈ lw_tb, w.before _ s = true := fun w h => hts w (List.mem_cons_of_mem _ h)
  have hown : s.vm.findClass R_Law = some m.cls := findClass_of_methodNamed B.named
  have hlocks := B.notSynchronized
  have htab := vx_table (x := y_Law_make) B (hts _ List.mem_cons_self)
  subst hsz
  have hD := hD0.self (sz := s.heap.size)
  generalize hAe : va_A (wX g k L u f0 tl tp qo fo) s.heap.size = A at hD ⊢
  have hA : ∀ q : Nat, s.heap.size ≤ q → A q := fun q h => by rw [← hAe]; exact Or.inr h
  have hS : va_S A s.heap s.heap [] := va_S.rf
  have hl := lv_entry ([.ref (g 9), .int (nI d), .int (nI w), .int (zI (b)), .ref qo]) (n := 6) (Nat.le_of_ble_eq_true rfl)
  rw [lg_entry_eq]
  generalize (lg_sl ([.ref (g 9), .int (nI d), .int (nI w), .int (zI (b)), .ref qo]) ++ List.replicate (6 - (lg_sl ([.ref (g 9), .int (nI d), .int (nI w), .int (zI (b)), .ref qo])).length) Slot.unset).toArray = ls at hl ⊢
  have hl : lv_has ls 6 [(0, .ref (g 9)), (1, .int (nI d)), (2, .int (nI w)), (3, .int (zI (b))), (4, .ref qo)] := hl
  refine lv_aload hx hb d_Law_make_0 (lv_at hl 4 rfl) ?_
  refine lv_iconst (v := nI 0) hx hb d_Law_make_2 (by decide +kernel) ?_
  refine lv_aload_n hx hb d_Law_make_3 rfl (lv_at hl 0 rfl) ?_
  refine lv_iload_n hx hb d_Law_make_4 rfl (lv_at hl 1 rfl) ?_
  refine lv_iload_n hx hb d_Law_make_5 rfl (lv_at hl 2 rfl) ?_
  refine lv_iload_n hx hb d_Law_make_6 rfl (lv_at hl 3 rfl) ?_
  refine gz_muI (As := [.int (nI d), .int (nI w), .int (zI (b))]) (rest := [.int (nI 0), .ref qo]) (wc := (wT g k L u f0 tl tp)) (w1 := (wT g k L ((mkC L u d w (if b then 2 else 1)).2) f0 tl tp)) (wr := ([(qo, .inl (k 0, 1, .inr (.inl fo)))])) ⟨hx, hb, hml, hown, hTB⟩ (c_Tree_make l D g k L hL0 hL u f0 tl tp d w b hd0 hw1 hw2) (cwV 3 hTB (gd_V k_323 k_324 k_325 k_51 k_326) rfl rfl rfl (by decide +kernel) ⟨Nat.le_of_ble_eq_true rfl, Nat.le_of_ble_eq_true rfl⟩) hK hP hD hA [0, 1, 2, 3, 4, 5, 6, 7, 8, 9, 10] [11] rfl rfl (by decide) rfl (by decide) (by decide) 0 rfl rfl rfl hl.1 rfl (Nat.le_of_ble_eq_true rfl) d_Law_make_7 ⟨Nat.le_of_ble_eq_true rfl, Nat.le_of_ble_eq_true rfl⟩ hS (fun H locs hP hD hS => ?_)
  have hP : va_P D cl5 (wX g k L ((mkC L u d w (if b then 2 else 1)).2) f0 tl tp qo fo) H := hP.sub [1, 2, 3, 4, 5, 6, 7, 8, 9, 10, 11, 0] rfl
  have hD : va_D A (wX g k L ((mkC L u d w (if b then 2 else 1)).2) f0 tl tp qo fo) := hD.sub [1, 2, 3, 4, 5, 6, 7, 8, 9, 10, 11, 0] (by decide) rfl
  refine lv_i2l hx hb d_Law_make_10 rfl ?_
  refine gz_last hx hb hK hP hD hS 11 0 rfl rfl (i := 0) (by omega) (by omega) d_Law_make_11 (fun H locs hP hD hS => ?_)
  have hP : va_P D cl5 (wX g k L ((mkC L u d w (if b then 2 else 1)).2) f0 tl tp qo (va_up (fo) 0 (((mkC L u d w (if b then 2 else 1)).1).toInt64))) H := hP
  have hD : va_D A (wX g k L ((mkC L u d w (if b then 2 else 1)).2) f0 tl tp qo (va_up (fo) 0 (((mkC L u d w (if b then 2 else 1)).1).toInt64))) := hD
  refine lv_goto (tgt := 19) hx hb d_Law_make_12 (by decide) ?_
  refine lv_iconst (v := nI 0) hx hb d_Law_make_19 (by decide +kernel) ?_
  refine W.widen (k := 1) (n := 6) (Nat.le_of_ble_eq_true rfl) (Nat.le_of_ble_eq_true rfl) ?_
  have hP9 : va_P D cl5 (wX g k L ((mkC L u d w (if b then 2 else 1)).2) f0 tl tp qo (va_up fo 0 ((mkC L u d w (if b then 2 else 1)).1).toInt64)) H := hP
  have hD9 : va_D A (wX g k L ((mkC L u d w (if b then 2 else 1)).2) f0 tl tp qo (va_up fo 0 ((mkC L u d w (if b then 2 else 1)).1).toInt64)) := hD
  exact W.iret (v := nI 0) hx hb hr (fun tt9 ht9 hW9 => ⟨⟨_, (), rfl, rfl, ⟨by rw [ht9]; exact hP9, hD9⟩⟩, hS.F ht9⟩) hS.2.2 d_Law_make_20
set_option maxHeartbeats 4000000 in
set_option maxRecDepth 100000 in
theorem h_find (l : Launch) (htr : l.stackTraces = false) (D : va_G) (g : Nat → Nat) (k : Nat → ClassId) (L : Nat) (hL0 : 96 ≤ L) (hL : L ≤ 768) (u : DSt) (f0 : Nat → Int32) (tl : Nat) (tp : Nat → Int32) (qo : Nat) (fo : Nat → Int64) (d w : Nat) (hd0 : d < 64) (hw1 : 1 ≤ w) (hw2 : w ≤ 65535) : MuH l y_Law_find w_Law_find ({ frames := 9, cells := 1, slots := 6, locals := 162 }) [.ref (g 9), .int (nI d), .int (nI w), .ref qo] D cl5 (tyC k) (wX g k L u f0 tl tp qo fo) (wX g k L u f0 tl tp qo (va_up fo 0 (fdC L (dNow u) d w).toInt64)) (nI 0) := by
  intro sz
  refine xx_ofWH (cc := b_Law_find) (maxL := 5) (ret := (some .int)) (by decide) rfl ?_
  intro p9 e9 s m args9 below9 meth9 c9 s₁ B hml hv
  obtain ⟨rfl, ⟨hsz, hP, hK, hD0⟩, hX⟩ := hv
  have hx := B.exec
  have hb := B.bytes
  have hr := B.returns
  have hts := atoms_spec (ws := w_Law_find) B.pre
  have hTB : ∀ w ∈ lw_tb, w.before _ s = true := fun w h => hts w (List.mem_cons_of_mem _ h)
  have hown : s.vm.findClass R_Law = some m.cls := findClass_of_methodNamed B.named
  have hlocks := B.notSynchronized
  have htab := vx_table (x := y_Law_find) B (hts _ List.mem_cons_self)
  subst hsz
  have hD := hD0.self (sz := s.heap.size)
  generalize hAe : va_A (wX g k L u f0 tl tp qo fo) s.heap.size = A at hD ⊢
  have hA : ∀ q : Nat, s.heap.size ≤ q → A q := fun q h => by rw [← hAe]; exact Or.inr h
  have hS : va_S A s.heap s.heap [] := va_S.rf
  have hl := lv_entry ([.ref (g 9), .int (nI d), .int (nI w), .ref qo]) (n := 5) (Nat.le_of_ble_eq_true rfl)
  rw [lg_entry_eq]
  generalize (lg_sl ([.ref (g 9), .int (nI d), .int (nI w), .ref qo]) ++ List.replicate (5 - (lg_sl ([.ref (g 9), .int (nI d), .int (nI w), .ref qo])).length) Slot.unset).toArray = ls at hl ⊢
  have hl : lv_has ls 5 [(0, .ref (g 9)), (1, .int (nI d)), (2, .int (nI w)), (3, .ref qo)] := hl
  refine lv_aload_n hx hb d_Law_find_0 rfl (lv_at hl 3 rfl) ?_
  refine lv_iconst (v := nI 0) hx hb d_Law_find_1 (by decide +kernel) ?_
  refine lv_aload_n hx hb d_Law_find_2 rfl (lv_at hl 0 rfl) ?_
  refine lv_iload_n hx hb d_Law_find_3 rfl (lv_at hl 1 rfl) ?_
  refine lv_iload_n hx hb d_Law_find_4 rfl (lv_at hl 2 rfl) ?_
  refine gz_roV (As := [.int (nI d), .int (nI w)]) (rest := [.int (nI 0), .ref qo]) (wc := (wT g k L u f0 tl tp)) ⟨hx, hb, hml, hown, hTB⟩ (c_Tree_find l D g k L hL0 hL u f0 tl tp d w hd0 hw1 hw2) (cwV 2 hTB (gd_V k_442 k_443 k_444 k_51 k_445) rfl rfl rfl (by decide +kernel) ⟨Nat.le_of_ble_eq_true rfl, Nat.le_of_ble_eq_true rfl⟩) hK hP [0, 1, 2, 3, 4, 5, 6, 7, 8, 9, 10] rfl 0 rfl rfl rfl hl.1 rfl (Nat.le_of_ble_eq_true rfl) d_Law_find_5 ⟨Nat.le_of_ble_eq_true rfl, Nat.le_of_ble_eq_true rfl⟩ hS (fun H locs hP hS => ?_)
  refine lv_i2l hx hb d_Law_find_8 rfl ?_
  refine gz_last hx hb hK hP hD hS 11 0 rfl rfl (i := 0) (by omega) (by omega) d_Law_find_9 (fun H locs hP hD hS => ?_)
  have hP : va_P D cl5 (wX g k L u f0 tl tp qo (va_up (fo) 0 ((fdC L (dNow u) d w).toInt64))) H := hP
  have hD : va_D A (wX g k L u f0 tl tp qo (va_up (fo) 0 ((fdC L (dNow u) d w).toInt64))) := hD
  refine lv_goto (tgt := 17) hx hb d_Law_find_10 (by decide) ?_
  refine lv_iconst (v := nI 0) hx hb d_Law_find_17 (by decide +kernel) ?_
  refine W.widen (k := 1) (n := 6) (Nat.le_of_ble_eq_true rfl) (Nat.le_of_ble_eq_true rfl) ?_
  have hP9 : va_P D cl5 (wX g k L u f0 tl tp qo (va_up fo 0 (fdC L (dNow u) d w).toInt64)) H := hP
  have hD9 : va_D A (wX g k L u f0 tl tp qo (va_up fo 0 (fdC L (dNow u) d w).toInt64)) := hD
  exact W.iret (v := nI 0) hx hb hr (fun tt9 ht9 hW9 => ⟨⟨_, (), rfl, rfl, ⟨by rw [ht9]; exact hP9, hD9⟩⟩, hS.F ht9⟩) hS.2.2 d_Law_find_18
set_option maxHeartbeats 4000000 in
set_option maxRecDepth 100000 in
theorem h_write (l : Launch) (htr : l.stackTraces = false) (D : va_G) (g : Nat → Nat) (k : Nat → ClassId) (L : Nat) (hL0 : 96 ≤ L) (hL : L ≤ 768) (u : DSt) (f0 : Nat → Int32) (tl : Nat) (tp : Nat → Int32) (qo : Nat) (fo : Nat → Int64) (i : Nat) (x : Int32) (hi0 : i < 64) (ht0 : tl ≤ 512) : MuH l y_Law_write w_Law_write ({ frames := 9, cells := 1, slots := 6, locals := 206 }) [.ref (g 9), .int (nI i), .int (x), .ref qo] D cl5 (tyC k) (wX g k L u f0 tl tp qo fo) (wX g k L ((wrC L u i x tl tp).2) f0 0 tp qo (va_up fo 0 ((wrC L u i x tl tp).1).toInt64)) (nI 0) := by
  intro sz
  refine xx_ofWH (cc := b_Law_write) (maxL := 5) (ret := (some .int)) (by decide) rfl ?_
  intro p9 e9 s m args9 below9 meth9 c9 s₁ B hml hv
  obtain ⟨rfl, ⟨hsz, hP, hK, hD0⟩, hX⟩ := hv
  have hx := B.exec
  have hb := B.bytes
  have hr := B.returns
  have hts := atoms_spec (ws := w_Law_write) B.pre
  have hTB : ∀ w ∈ lw_tb, w.before _ s = true := fun w h => hts w (List.mem_cons_of_mem _ h)
  have hown : s.vm.findClass R_Law = some m.cls := findClass_of_methodNamed B.named
  have hlocks := B.notSynchronized
  have htab := vx_table (x := y_Law_write) B (hts _ List.mem_cons_self)
  subst hsz
  have hD := hD0.self (sz := s.heap.size)
  generalize hAe : va_A (wX g k L u f0 tl tp qo fo) s.heap.size = A at hD ⊢
  have hA : ∀ q : Nat, s.heap.size ≤ q → A q := fun q h => by rw [← hAe]; exact Or.inr h
  have hS : va_S A s.heap s.heap [] := va_S.rf
  have hl := lv_entry ([.ref (g 9), .int (nI i), .int (x), .ref qo]) (n := 5) (Nat.le_of_ble_eq_true rfl)
  rw [lg_entry_eq]
  generalize (lg_sl ([.ref (g 9), .int (nI i), .int (x), .ref qo]) ++ List.replicate (5 - (lg_sl ([.ref (g 9), .int (nI i), .int (x), .ref qo])).length) Slot.unset).toArray = ls at hl ⊢
  have hl : lv_has ls 5 [(0, .ref (g 9)), (1, .int (nI i)), (2, .int (x)), (3, .ref qo)] := hl
  refine lv_aload_n hx hb d_Law_write_0 rfl (lv_at hl 3 rfl) ?_
  refine lv_iconst (v := nI 0) hx hb d_Law_write_1 (by decide +kernel) ?_
  refine lv_aload_n hx hb d_Law_write_2 rfl (lv_at hl 0 rfl) ?_
  refine lv_iload_n hx hb d_Law_write_3 rfl (lv_at hl 1 rfl) ?_
  refine lv_iload_n hx hb d_Law_write_4 rfl (lv_at hl 2 rfl) ?_
  refine gz_muI (As := [.int (nI i), .int (x)]) (rest := [.int (nI 0), .ref qo]) (wc := (wT g k L u f0 tl tp)) (w1 := (wT g k L ((wrC L u i x tl tp).2) f0 0 tp)) (wr := ([(qo, .inl (k 0, 1, .inr (.inl fo)))])) ⟨hx, hb, hml, hown, hTB⟩ (c_Tree_write l D g k L hL0 hL u f0 tl tp i x hi0 ht0) (cwV 2 hTB (gd_V k_458 k_459 k_460 k_51 k_461) rfl rfl rfl (by decide +kernel) ⟨Nat.le_of_ble_eq_true rfl, Nat.le_of_ble_eq_true rfl⟩) hK hP hD hA [0, 1, 2, 3, 4, 5, 6, 7, 8, 9, 10] [11] rfl rfl (by decide) rfl (by decide) (by decide) 0 rfl rfl rfl hl.1 rfl (Nat.le_of_ble_eq_true rfl) d_Law_write_5 ⟨Nat.le_of_ble_eq_true rfl, Nat.le_of_ble_eq_true rfl⟩ hS (fun H locs hP hD hS => ?_)
  have hP : va_P D cl5 (wX g k L ((wrC L u i x tl tp).2) f0 0 tp qo fo) H := hP.sub [1, 2, 3, 4, 5, 6, 7, 8, 9, 10, 11, 0] rfl
  have hD : va_D A (wX g k L ((wrC L u i x tl tp).2) f0 0 tp qo fo) := hD.sub [1, 2, 3, 4, 5, 6, 7, 8, 9, 10, 11, 0] (by decide) rfl
  refine lv_i2l hx hb d_Law_write_8 rfl ?_
  refine gz_last hx hb hK hP hD hS 11 0 rfl rfl (i := 0) (by omega) (by omega) d_Law_write_9 (fun H locs hP hD hS => ?_)
  have hP : va_P D cl5 (wX g k L ((wrC L u i x tl tp).2) f0 0 tp qo (va_up (fo) 0 (((wrC L u i x tl tp).1).toInt64))) H := hP
  have hD : va_D A (wX g k L ((wrC L u i x tl tp).2) f0 0 tp qo (va_up (fo) 0 (((wrC L u i x tl tp).1).toInt64))) := hD
  refine lv_goto (tgt := 17) hx hb d_Law_write_10 (by decide) ?_
  refine lv_iconst (v := nI 0) hx hb d_Law_write_17 (by decide +kernel) ?_
  refine W.widen (k := 1) (n := 6) (Nat.le_of_ble_eq_true rfl) (Nat.le_of_ble_eq_true rfl) ?_
  have hP9 : va_P D cl5 (wX g k L ((wrC L u i x tl tp).2) f0 0 tp qo (va_up fo 0 ((wrC L u i x tl tp).1).toInt64)) H := hP
  have hD9 : va_D A (wX g k L ((wrC L u i x tl tp).2) f0 0 tp qo (va_up fo 0 ((wrC L u i x tl tp).1).toInt64)) := hD
  exact W.iret (v := nI 0) hx hb hr (fun tt9 ht9 hW9 => ⟨⟨_, (), rfl, rfl, ⟨by rw [ht9]; exact hP9, hD9⟩⟩, hS.F ht9⟩) hS.2.2 d_Law_write_18
set_option maxHeartbeats 4000000 in
set_option maxRecDepth 100000 in
theorem h_cut (l : Launch) (htr : l.stackTraces = false) (D : va_G) (g : Nat → Nat) (k : Nat → ClassId) (L : Nat) (hL0 : 96 ≤ L) (hL : L ≤ 768) (u : DSt) (f0 : Nat → Int32) (tl : Nat) (tp : Nat → Int32) (qo : Nat) (fo : Nat → Int64) (i : Nat) (x : Int32) (hi0 : i < 64) : MuH l y_Law_cut w_Law_cut ({ frames := 9, cells := 1, slots := 6, locals := 202 }) [.ref (g 9), .int (nI i), .int (x), .ref qo] D cl5 (tyC k) (wX g k L u f0 tl tp qo fo) (wX g k L ((ctC L u i x).2) f0 tl tp qo (va_up fo 0 ((ctC L u i x).1).toInt64)) (nI 0) := by
  intro sz
  refine xx_ofWH (cc := b_Law_cut) (maxL := 5) (ret := (some .int)) (by decide) rfl ?_
  intro p9 e9 s m args9 below9 meth9 c9 s₁ B hml hv
  obtain ⟨rfl, ⟨hsz, hP, hK, hD0⟩, hX⟩ := hv
  have hx := B.exec
  have hb := B.bytes
  have hr := B.returns
  have hts := atoms_spec (ws := w_Law_cut) B.pre
  have hTB : ∀ w ∈ lw_tb, w.before _ s = true := fun w h => hts w (List.mem_cons_of_mem _ h)
  have hown : s.vm.findClass R_Law = some m.cls := findClass_of_methodNamed B.named
  have hlocks := B.notSynchronized
  have htab := vx_table (x := y_Law_cut) B (hts _ List.mem_cons_self)
  subst hsz
  have hD := hD0.self (sz := s.heap.size)
  generalize hAe : va_A (wX g k L u f0 tl tp qo fo) s.heap.size = A at hD ⊢
  have hA : ∀ q : Nat, s.heap.size ≤ q → A q := fun q h => by rw [← hAe]; exact Or.inr h
  have hS : va_S A s.heap s.heap [] := va_S.rf
  have hl := lv_entry ([.ref (g 9), .int (nI i), .int (x), .ref qo]) (n := 5) (Nat.le_of_ble_eq_true rfl)
  rw [lg_entry_eq]
  generalize (lg_sl ([.ref (g 9), .int (nI i), .int (x), .ref qo]) ++ List.replicate (5 - (lg_sl ([.ref (g 9), .int (nI i), .int (x), .ref qo])).length) Slot.unset).toArray = ls at hl ⊢
  have hl : lv_has ls 5 [(0, .ref (g 9)), (1, .int (nI i)), (2, .int (x)), (3, .ref qo)] := hl
  refine lv_aload_n hx hb d_Law_cut_0 rfl (lv_at hl 3 rfl) ?_
  refine lv_iconst (v := nI 0) hx hb d_Law_cut_1 (by decide +kernel) ?_
  refine lv_aload_n hx hb d_Law_cut_2 rfl (lv_at hl 0 rfl) ?_
  refine lv_iload_n hx hb d_Law_cut_3 rfl (lv_at hl 1 rfl) ?_
  refine lv_iload_n hx hb d_Law_cut_4 rfl (lv_at hl 2 rfl) ?_
  refine gz_muI (As := [.int (nI i), .int (x)]) (rest := [.int (nI 0), .ref qo]) (wc := (wT g k L u f0 tl tp)) (w1 := (wT g k L ((ctC L u i x).2) f0 tl tp)) (wr := ([(qo, .inl (k 0, 1, .inr (.inl fo)))])) ⟨hx, hb, hml, hown, hTB⟩ (c_Tree_cut l D g k L hL0 hL u f0 tl tp i x hi0) (cwV 2 hTB (gd_V k_472 k_473 k_474 k_51 k_475) rfl rfl rfl (by decide +kernel) ⟨Nat.le_of_ble_eq_true rfl, Nat.le_of_ble_eq_true rfl⟩) hK hP hD hA [0, 1, 2, 3, 4, 5, 6, 7, 8, 9, 10] [11] rfl rfl (by decide) rfl (by decide) (by decide) 0 rfl rfl rfl hl.1 rfl (Nat.le_of_ble_eq_true rfl) d_Law_cut_5 ⟨Nat.le_of_ble_eq_true rfl, Nat.le_of_ble_eq_true rfl⟩ hS (fun H locs hP hD hS => ?_)
  have hP : va_P D cl5 (wX g k L ((ctC L u i x).2) f0 tl tp qo fo) H := hP.sub [1, 2, 3, 4, 5, 6, 7, 8, 9, 10, 11, 0] rfl
  have hD : va_D A (wX g k L ((ctC L u i x).2) f0 tl tp qo fo) := hD.sub [1, 2, 3, 4, 5, 6, 7, 8, 9, 10, 11, 0] (by decide) rfl
  refine lv_i2l hx hb d_Law_cut_8 rfl ?_
  refine gz_last hx hb hK hP hD hS 11 0 rfl rfl (i := 0) (by omega) (by omega) d_Law_cut_9 (fun H locs hP hD hS => ?_)
  have hP : va_P D cl5 (wX g k L ((ctC L u i x).2) f0 tl tp qo (va_up (fo) 0 (((ctC L u i x).1).toInt64))) H := hP
  have hD : va_D A (wX g k L ((ctC L u i x).2) f0 tl tp qo (va_up (fo) 0 (((ctC L u i x).1).toInt64))) := hD
  refine lv_goto (tgt := 17) hx hb d_Law_cut_10 (by decide) ?_
  refine lv_iconst (v := nI 0) hx hb d_Law_cut_17 (by decide +kernel) ?_
  refine W.widen (k := 1) (n := 6) (Nat.le_of_ble_eq_true rfl) (Nat.le_of_ble_eq_true rfl) ?_
  have hP9 : va_P D cl5 (wX g k L ((ctC L u i x).2) f0 tl tp qo (va_up fo 0 ((ctC L u i x).1).toInt64)) H := hP
  have hD9 : va_D A (wX g k L ((ctC L u i x).2) f0 tl tp qo (va_up fo 0 ((ctC L u i x).1).toInt64)) := hD
  exact W.iret (v := nI 0) hx hb hr (fun tt9 ht9 hW9 => ⟨⟨_, (), rfl, rfl, ⟨by rw [ht9]; exact hP9, hD9⟩⟩, hS.F ht9⟩) hS.2.2 d_Law_cut_18
set_option maxHeartbeats 4000000 in
set_option maxRecDepth 100000 in
theorem h_read (l : Launch) (htr : l.stackTraces = false) (D : va_G) (g : Nat → Nat) (k : Nat → ClassId) (L : Nat) (hL0 : 96 ≤ L) (hL : L ≤ 768) (u : DSt) (f0 : Nat → Int32) (tl : Nat) (tp : Nat → Int32) (qo : Nat) (fo : Nat → Int64) (i t : Nat) (hi0 : i < 64) (ht0 : t < iS L (dNow u) i) : MuH l y_Law_read w_Law_read ({ frames := 9, cells := 1, slots := 6, locals := 155 }) [.ref (g 9), .int (nI i), .int (nI t), .ref qo] D cl5 (tyC k) (wX g k L u f0 tl tp qo fo) (wX g k L u f0 tl tp qo (va_up fo 0 (rdG L (dNow u) i t 8))) (nI 0) := by
  intro sz
  refine xx_ofWH (cc := b_Law_read) (maxL := 5) (ret := (some .int)) (by decide) rfl ?_
  intro p9 e9 s m args9 below9 meth9 c9 s₁ B hml hv
  obtain ⟨rfl, ⟨hsz, hP, hK, hD0⟩, hX⟩ := hv
  have hx := B.exec
  have hb := B.bytes
  have hr := B.returns
  have hts := atoms_spec (ws := w_Law_read) B.pre
  have hTB : ∀ w ∈ lw_tb, w.before _ s = true := fun w h => hts w (List.mem_cons_of_mem _ h)
  have hown : s.vm.findClass R_Law = some m.cls := findClass_of_methodNamed B.named
  have hlocks := B.notSynchronized
  have htab := vx_table (x := y_Law_read) B (hts _ List.mem_cons_self)
  subst hsz
  have hD := hD0.self (sz := s.heap.size)
  generalize hAe : va_A (wX g k L u f0 tl tp qo fo) s.heap.size = A at hD ⊢
  have hA : ∀ q : Nat, s.heap.size ≤ q → A q := fun q h => by rw [← hAe]; exact Or.inr h
  have hS : va_S A s.heap s.heap [] := va_S.rf
  have hl := lv_entry ([.ref (g 9), .int (nI i), .int (nI t), .ref qo]) (n := 5) (Nat.le_of_ble_eq_true rfl)
  rw [lg_entry_eq]
  generalize (lg_sl ([.ref (g 9), .int (nI i), .int (nI t), .ref qo]) ++ List.replicate (5 - (lg_sl ([.ref (g 9), .int (nI i), .int (nI t), .ref qo])).length) Slot.unset).toArray = ls at hl ⊢
  have hl : lv_has ls 5 [(0, .ref (g 9)), (1, .int (nI i)), (2, .int (nI t)), (3, .ref qo)] := hl
  refine lv_aload_n hx hb d_Law_read_0 rfl (lv_at hl 3 rfl) ?_
  refine lv_iconst (v := nI 0) hx hb d_Law_read_1 (by decide +kernel) ?_
  refine lv_aload_n hx hb d_Law_read_2 rfl (lv_at hl 0 rfl) ?_
  refine lv_iload_n hx hb d_Law_read_3 rfl (lv_at hl 1 rfl) ?_
  refine lv_iload_n hx hb d_Law_read_4 rfl (lv_at hl 2 rfl) ?_
  refine gz_roVl (As := [.int (nI i), .int (nI t)]) (rest := [.int (nI 0), .ref qo]) (wc := (wT g k L u f0 tl tp)) ⟨hx, hb, hml, hown, hTB⟩ (c_Tree_read l D g k L hL0 hL u f0 tl tp i t hi0 ht0) (cwV 2 hTB (gd_V k_480 k_481 k_482 k_51 k_483) rfl rfl rfl (by decide +kernel) ⟨Nat.le_of_ble_eq_true rfl, Nat.le_of_ble_eq_true rfl⟩) hK hP [0, 1, 2, 3, 4, 5, 6, 7, 8, 9, 10] rfl 0 rfl rfl rfl hl.1 rfl (Nat.le_of_ble_eq_true rfl) d_Law_read_5 ⟨Nat.le_of_ble_eq_true rfl, Nat.le_of_ble_eq_true rfl⟩ hS (fun H locs hP hS => ?_)
  refine gz_last hx hb hK hP hD hS 11 0 rfl rfl (i := 0) (by omega) (by omega) d_Law_read_8 (fun H locs hP hD hS => ?_)
  have hP : va_P D cl5 (wX g k L u f0 tl tp qo (va_up (fo) 0 (rdG L (dNow u) i t 8))) H := hP
  have hD : va_D A (wX g k L u f0 tl tp qo (va_up (fo) 0 (rdG L (dNow u) i t 8))) := hD
  refine lv_goto (tgt := 20) hx hb d_Law_read_9 (by decide) ?_
  refine lv_iconst (v := nI 0) hx hb d_Law_read_20 (by decide +kernel) ?_
  refine W.widen (k := 1) (n := 6) (Nat.le_of_ble_eq_true rfl) (Nat.le_of_ble_eq_true rfl) ?_
  have hP9 : va_P D cl5 (wX g k L u f0 tl tp qo (va_up fo 0 (rdG L (dNow u) i t 8))) H := hP
  have hD9 : va_D A (wX g k L u f0 tl tp qo (va_up fo 0 (rdG L (dNow u) i t 8))) := hD
  exact W.iret (v := nI 0) hx hb hr (fun tt9 ht9 hW9 => ⟨⟨_, (), rfl, rfl, ⟨by rw [ht9]; exact hP9, hD9⟩⟩, hS.F ht9⟩) hS.2.2 d_Law_read_21
set_option maxHeartbeats 4000000 in
set_option maxRecDepth 100000 in
theorem h_move (l : Launch) (htr : l.stackTraces = false) (D : va_G) (g : Nat → Nat) (k : Nat → ClassId) (L : Nat) (hL0 : 96 ≤ L) (hL : L ≤ 768) (u : DSt) (f0 : Nat → Int32) (tl : Nat) (tp : Nat → Int32) (qo : Nat) (fo : Nat → Int64) (d w d2 w2 : Nat) (hd0 : d < 64) (hw1 : 1 ≤ w) (hw2 : w ≤ 65535) (hd1 : d2 < 64) (hw3 : 1 ≤ w2) (hw4 : w2 ≤ 65535) : MuH l y_Law_move w_Law_move ({ frames := 9, cells := 1, slots := 6, locals := 232 }) [.ref (g 9), .int (nI d), .int (nI w), .int (nI d2), .int (nI w2), .ref qo] D cl5 (tyC k) (wX g k L u f0 tl tp qo fo) (wX g k L ((mvC L u f0 d w d2 w2).2) (mv2 L (dNow u) f0 d w d2 w2) tl tp qo (va_up fo 0 ((mvC L u f0 d w d2 w2).1).toInt64)) (nI 0) := by
  intro sz
  refine xx_ofWH (cc := b_Law_move) (maxL := 7) (ret := (some .int)) (by decide) rfl ?_
  intro p9 e9 s m args9 below9 meth9 c9 s₁ B hml hv
  obtain ⟨rfl, ⟨hsz, hP, hK, hD0⟩, hX⟩ := hv
  have hx := B.exec
  have hb := B.bytes
  have hr := B.returns
  have hts := atoms_spec (ws := w_Law_move) B.pre
  have hTB : ∀ w ∈ lw_tb, w.before _ s = true := fun w h => hts w (List.mem_cons_of_mem _ h)
  have hown : s.vm.findClass R_Law = some m.cls := findClass_of_methodNamed B.named
  have hlocks := B.notSynchronized
  have htab := vx_table (x := y_Law_move) B (hts _ List.mem_cons_self)
  subst hsz
  have hD := hD0.self (sz := s.heap.size)
  generalize hAe : va_A (wX g k L u f0 tl tp qo fo) s.heap.size = A at hD ⊢
  have hA : ∀ q : Nat, s.heap.size ≤ q → A q := fun q h => by rw [← hAe]; exact Or.inr h
  have hS : va_S A s.heap s.heap [] := va_S.rf
  have hl := lv_entry ([.ref (g 9), .int (nI d), .int (nI w), .int (nI d2), .int (nI w2), .ref qo]) (n := 7) (Nat.le_of_ble_eq_true rfl)
  rw [lg_entry_eq]
  generalize (lg_sl ([.ref (g 9), .int (nI d), .int (nI w), .int (nI d2), .int (nI w2), .ref qo]) ++ List.replicate (7 - (lg_sl ([.ref (g 9), .int (nI d), .int (nI w), .int (nI d2), .int (nI w2), .ref qo])).length) Slot.unset).toArray = ls at hl ⊢
  have hl : lv_has ls 7 [(0, .ref (g 9)), (1, .int (nI d)), (2, .int (nI w)), (3, .int (nI d2)), (4, .int (nI w2)), (5, .ref qo)] := hl
  refine lv_aload hx hb d_Law_move_0 (lv_at hl 5 rfl) ?_
  refine lv_iconst (v := nI 0) hx hb d_Law_move_2 (by decide +kernel) ?_
  refine lv_aload_n hx hb d_Law_move_3 rfl (lv_at hl 0 rfl) ?_
  refine lv_iload_n hx hb d_Law_move_4 rfl (lv_at hl 1 rfl) ?_
  refine lv_iload_n hx hb d_Law_move_5 rfl (lv_at hl 2 rfl) ?_
  refine lv_iload_n hx hb d_Law_move_6 rfl (lv_at hl 3 rfl) ?_
  refine lv_iload hx hb d_Law_move_7 (lv_at hl 4 rfl) ?_
  refine gz_muI (As := [.int (nI d), .int (nI w), .int (nI d2), .int (nI w2)]) (rest := [.int (nI 0), .ref qo]) (wc := (wT g k L u f0 tl tp)) (w1 := (wT g k L ((mvC L u f0 d w d2 w2).2) (mv2 L (dNow u) f0 d w d2 w2) tl tp)) (wr := ([(qo, .inl (k 0, 1, .inr (.inl fo)))])) ⟨hx, hb, hml, hown, hTB⟩ (c_Tree_move l D g k L hL0 hL u f0 tl tp d w d2 w2 hd0 hw1 hw2 hd1 hw3 hw4) (cwV 4 hTB (gd_V k_504 k_505 k_506 k_51 k_507) rfl rfl rfl (by decide +kernel) ⟨Nat.le_of_ble_eq_true rfl, Nat.le_of_ble_eq_true rfl⟩) hK hP hD hA [0, 1, 2, 3, 4, 5, 6, 7, 8, 9, 10] [11] rfl rfl (by decide) rfl (by decide) (by decide) 0 rfl rfl rfl hl.1 rfl (Nat.le_of_ble_eq_true rfl) d_Law_move_9 ⟨Nat.le_of_ble_eq_true rfl, Nat.le_of_ble_eq_true rfl⟩ hS (fun H locs hP hD hS => ?_)
  have hP : va_P D cl5 (wX g k L ((mvC L u f0 d w d2 w2).2) (mv2 L (dNow u) f0 d w d2 w2) tl tp qo fo) H := hP.sub [1, 2, 3, 4, 5, 6, 7, 8, 9, 10, 11, 0] rfl
  have hD : va_D A (wX g k L ((mvC L u f0 d w d2 w2).2) (mv2 L (dNow u) f0 d w d2 w2) tl tp qo fo) := hD.sub [1, 2, 3, 4, 5, 6, 7, 8, 9, 10, 11, 0] (by decide) rfl
  refine lv_i2l hx hb d_Law_move_12 rfl ?_
  refine gz_last hx hb hK hP hD hS 11 0 rfl rfl (i := 0) (by omega) (by omega) d_Law_move_13 (fun H locs hP hD hS => ?_)
  have hP : va_P D cl5 (wX g k L ((mvC L u f0 d w d2 w2).2) (mv2 L (dNow u) f0 d w d2 w2) tl tp qo (va_up (fo) 0 (((mvC L u f0 d w d2 w2).1).toInt64))) H := hP
  have hD : va_D A (wX g k L ((mvC L u f0 d w d2 w2).2) (mv2 L (dNow u) f0 d w d2 w2) tl tp qo (va_up (fo) 0 (((mvC L u f0 d w d2 w2).1).toInt64))) := hD
  refine lv_goto (tgt := 21) hx hb d_Law_move_14 (by decide) ?_
  refine lv_iconst (v := nI 0) hx hb d_Law_move_21 (by decide +kernel) ?_
  refine W.widen (k := 1) (n := 6) (Nat.le_of_ble_eq_true rfl) (Nat.le_of_ble_eq_true rfl) ?_
  have hP9 : va_P D cl5 (wX g k L ((mvC L u f0 d w d2 w2).2) (mv2 L (dNow u) f0 d w d2 w2) tl tp qo (va_up fo 0 ((mvC L u f0 d w d2 w2).1).toInt64)) H := hP
  have hD9 : va_D A (wX g k L ((mvC L u f0 d w d2 w2).2) (mv2 L (dNow u) f0 d w d2 w2) tl tp qo (va_up fo 0 ((mvC L u f0 d w d2 w2).1).toInt64)) := hD
  exact W.iret (v := nI 0) hx hb hr (fun tt9 ht9 hW9 => ⟨⟨_, (), rfl, rfl, ⟨by rw [ht9]; exact hP9, hD9⟩⟩, hS.F ht9⟩) hS.2.2 d_Law_move_22
set_option maxHeartbeats 4000000 in
set_option maxRecDepth 100000 in
theorem h_remove (l : Launch) (htr : l.stackTraces = false) (D : va_G) (g : Nat → Nat) (k : Nat → ClassId) (L : Nat) (hL0 : 96 ≤ L) (hL : L ≤ 768) (u : DSt) (f0 : Nat → Int32) (tl : Nat) (tp : Nat → Int32) (qo : Nat) (fo : Nat → Int64) (d w : Nat) (hd0 : d < 64) (hw1 : 1 ≤ w) (hw2 : w ≤ 65535) : MuH l y_Law_remove w_Law_remove ({ frames := 9, cells := 1, slots := 6, locals := 224 }) [.ref (g 9), .int (nI d), .int (nI w), .ref qo] D cl5 (tyC k) (wX g k L u f0 tl tp qo fo) (wX g k L ((rmC L u d w).2) f0 tl tp qo (va_up fo 0 ((rmC L u d w).1).toInt64)) (nI 0) := by
  intro sz
  refine xx_ofWH (cc := b_Law_remove) (maxL := 5) (ret := (some .int)) (by decide) rfl ?_
  intro p9 e9 s m args9 below9 meth9 c9 s₁ B hml hv
  obtain ⟨rfl, ⟨hsz, hP, hK, hD0⟩, hX⟩ := hv
  have hx := B.exec
  have hb := B.bytes
  have hr := B.returns
  have hts := atoms_spec (ws := w_Law_remove) B.pre
  have hTB : ∀ w ∈ lw_tb, w.before _ s = true := fun w h => hts w (List.mem_cons_of_mem _ h)
  have hown : s.vm.findClass R_Law = some m.cls := findClass_of_methodNamed B.named
  have hlocks := B.notSynchronized
  have htab := vx_table (x := y_Law_remove) B (hts _ List.mem_cons_self)
  subst hsz
  have hD := hD0.self (sz := s.heap.size)
  generalize hAe : va_A (wX g k L u f0 tl tp qo fo) s.heap.size = A at hD ⊢
  have hA : ∀ q : Nat, s.heap.size ≤ q → A q := fun q h => by rw [← hAe]; exact Or.inr h
  have hS : va_S A s.heap s.heap [] := va_S.rf
  have hl := lv_entry ([.ref (g 9), .int (nI d), .int (nI w), .ref qo]) (n := 5) (Nat.le_of_ble_eq_true rfl)
  rw [lg_entry_eq]
  generalize (lg_sl ([.ref (g 9), .int (nI d), .int (nI w), .ref qo]) ++ List.replicate (5 - (lg_sl ([.ref (g 9), .int (nI d), .int (nI w), .ref qo])).length) Slot.unset).toArray = ls at hl ⊢
  have hl : lv_has ls 5 [(0, .ref (g 9)), (1, .int (nI d)), (2, .int (nI w)), (3, .ref qo)] := hl
  refine lv_aload_n hx hb d_Law_remove_0 rfl (lv_at hl 3 rfl) ?_
  refine lv_iconst (v := nI 0) hx hb d_Law_remove_1 (by decide +kernel) ?_
  refine lv_aload_n hx hb d_Law_remove_2 rfl (lv_at hl 0 rfl) ?_
  refine lv_iload_n hx hb d_Law_remove_3 rfl (lv_at hl 1 rfl) ?_
  refine lv_iload_n hx hb d_Law_remove_4 rfl (lv_at hl 2 rfl) ?_
  refine gz_muI (As := [.int (nI d), .int (nI w)]) (rest := [.int (nI 0), .ref qo]) (wc := (wT g k L u f0 tl tp)) (w1 := (wT g k L ((rmC L u d w).2) f0 tl tp)) (wr := ([(qo, .inl (k 0, 1, .inr (.inl fo)))])) ⟨hx, hb, hml, hown, hTB⟩ (c_Tree_remove l D g k L hL0 hL u f0 tl tp d w hd0 hw1 hw2) (cwV 2 hTB (gd_V k_543 k_544 k_545 k_51 k_546) rfl rfl rfl (by decide +kernel) ⟨Nat.le_of_ble_eq_true rfl, Nat.le_of_ble_eq_true rfl⟩) hK hP hD hA [0, 1, 2, 3, 4, 5, 6, 7, 8, 9, 10] [11] rfl rfl (by decide) rfl (by decide) (by decide) 0 rfl rfl rfl hl.1 rfl (Nat.le_of_ble_eq_true rfl) d_Law_remove_5 ⟨Nat.le_of_ble_eq_true rfl, Nat.le_of_ble_eq_true rfl⟩ hS (fun H locs hP hD hS => ?_)
  have hP : va_P D cl5 (wX g k L ((rmC L u d w).2) f0 tl tp qo fo) H := hP.sub [1, 2, 3, 4, 5, 6, 7, 8, 9, 10, 11, 0] rfl
  have hD : va_D A (wX g k L ((rmC L u d w).2) f0 tl tp qo fo) := hD.sub [1, 2, 3, 4, 5, 6, 7, 8, 9, 10, 11, 0] (by decide) rfl
  refine lv_i2l hx hb d_Law_remove_8 rfl ?_
  refine gz_last hx hb hK hP hD hS 11 0 rfl rfl (i := 0) (by omega) (by omega) d_Law_remove_9 (fun H locs hP hD hS => ?_)
  have hP : va_P D cl5 (wX g k L ((rmC L u d w).2) f0 tl tp qo (va_up (fo) 0 (((rmC L u d w).1).toInt64))) H := hP
  have hD : va_D A (wX g k L ((rmC L u d w).2) f0 tl tp qo (va_up (fo) 0 (((rmC L u d w).1).toInt64))) := hD
  refine lv_goto (tgt := 17) hx hb d_Law_remove_10 (by decide) ?_
  refine lv_iconst (v := nI 0) hx hb d_Law_remove_17 (by decide +kernel) ?_
  refine W.widen (k := 1) (n := 6) (Nat.le_of_ble_eq_true rfl) (Nat.le_of_ble_eq_true rfl) ?_
  have hP9 : va_P D cl5 (wX g k L ((rmC L u d w).2) f0 tl tp qo (va_up fo 0 ((rmC L u d w).1).toInt64)) H := hP
  have hD9 : va_D A (wX g k L ((rmC L u d w).2) f0 tl tp qo (va_up fo 0 ((rmC L u d w).1).toInt64)) := hD
  exact W.iret (v := nI 0) hx hb hr (fun tt9 ht9 hW9 => ⟨⟨_, (), rfl, rfl, ⟨by rw [ht9]; exact hP9, hD9⟩⟩, hS.F ht9⟩) hS.2.2 d_Law_remove_18
set_option maxHeartbeats 4000000 in
set_option maxRecDepth 100000 in
theorem h_node (l : Launch) (htr : l.stackTraces = false) (D : va_G) (g : Nat → Nat) (k : Nat → ClassId) (L : Nat) (hL0 : 96 ≤ L) (hL : L ≤ 768) (u : DSt) (f0 : Nat → Int32) (tl : Nat) (tp : Nat → Int32) (qo : Nat) (fo : Nat → Int64) (i w : Nat) (hi0 : i < 64) (hw0 : w < 3 + 2 * iX L (dNow u) i) : MuH l y_Law_node w_Law_node ({ frames := 9, cells := 1, slots := 6, locals := 153 }) [.ref (g 9), .int (nI i), .int (nI w), .ref qo] D cl5 (tyC k) (wX g k L u f0 tl tp qo fo) (wX g k L u f0 tl tp qo (va_up fo 0 (nI (ndC L (dNow u) i w)).toInt64)) (nI 0) := by
  intro sz
  refine xx_ofWH (cc := b_Law_node) (maxL := 5) (ret := (some .int)) (by decide) rfl ?_
  intro p9 e9 s m args9 below9 meth9 c9 s₁ B hml hv
  obtain ⟨rfl, ⟨hsz, hP, hK, hD0⟩, hX⟩ := hv
  have hx := B.exec
  have hb := B.bytes
  have hr := B.returns
  have hts := atoms_spec (ws := w_Law_node) B.pre
  have hTB : ∀ w ∈ lw_tb, w.before _ s = true := fun w h => hts w (List.mem_cons_of_mem _ h)
  have hown : s.vm.findClass R_Law = some m.cls := findClass_of_methodNamed B.named
  have hlocks := B.notSynchronized
  have htab := vx_table (x := y_Law_node) B (hts _ List.mem_cons_self)
  subst hsz
  have hD := hD0.self (sz := s.heap.size)
  generalize hAe : va_A (wX g k L u f0 tl tp qo fo) s.heap.size = A at hD ⊢
  have hA : ∀ q : Nat, s.heap.size ≤ q → A q := fun q h => by rw [← hAe]; exact Or.inr h
  have hS : va_S A s.heap s.heap [] := va_S.rf
  have hl := lv_entry ([.ref (g 9), .int (nI i), .int (nI w), .ref qo]) (n := 5) (Nat.le_of_ble_eq_true rfl)
  rw [lg_entry_eq]
  generalize (lg_sl ([.ref (g 9), .int (nI i), .int (nI w), .ref qo]) ++ List.replicate (5 - (lg_sl ([.ref (g 9), .int (nI i), .int (nI w), .ref qo])).length) Slot.unset).toArray = ls at hl ⊢
  have hl : lv_has ls 5 [(0, .ref (g 9)), (1, .int (nI i)), (2, .int (nI w)), (3, .ref qo)] := hl
  refine lv_aload_n hx hb d_Law_node_0 rfl (lv_at hl 3 rfl) ?_
  refine lv_iconst (v := nI 0) hx hb d_Law_node_1 (by decide +kernel) ?_
  refine lv_aload_n hx hb d_Law_node_2 rfl (lv_at hl 0 rfl) ?_
  refine lv_iload_n hx hb d_Law_node_3 rfl (lv_at hl 1 rfl) ?_
  refine lv_iload_n hx hb d_Law_node_4 rfl (lv_at hl 2 rfl) ?_
  refine gz_roV (As := [.int (nI i), .int (nI w)]) (rest := [.int (nI 0), .ref qo]) (wc := (wT g k L u f0 tl tp)) ⟨hx, hb, hml, hown, hTB⟩ (c_Tree_node l D g k L hL0 hL u f0 tl tp i w hi0 hw0) (cwV 2 hTB (gd_V k_550 k_551 k_552 k_51 k_553) rfl rfl rfl (by decide +kernel) ⟨Nat.le_of_ble_eq_true rfl, Nat.le_of_ble_eq_true rfl⟩) hK hP [0, 1, 2, 3, 4, 5, 6, 7, 8, 9, 10] rfl 0 rfl rfl rfl hl.1 rfl (Nat.le_of_ble_eq_true rfl) d_Law_node_5 ⟨Nat.le_of_ble_eq_true rfl, Nat.le_of_ble_eq_true rfl⟩ hS (fun H locs hP hS => ?_)
  refine lv_i2l hx hb d_Law_node_8 rfl ?_
  refine gz_last hx hb hK hP hD hS 11 0 rfl rfl (i := 0) (by omega) (by omega) d_Law_node_9 (fun H locs hP hD hS => ?_)
  have hP : va_P D cl5 (wX g k L u f0 tl tp qo (va_up (fo) 0 ((nI (ndC L (dNow u) i w)).toInt64))) H := hP
  have hD : va_D A (wX g k L u f0 tl tp qo (va_up (fo) 0 ((nI (ndC L (dNow u) i w)).toInt64))) := hD
  refine lv_goto (tgt := 21) hx hb d_Law_node_10 (by decide) ?_
  refine lv_iconst (v := nI 0) hx hb d_Law_node_21 (by decide +kernel) ?_
  refine W.widen (k := 1) (n := 6) (Nat.le_of_ble_eq_true rfl) (Nat.le_of_ble_eq_true rfl) ?_
  have hP9 : va_P D cl5 (wX g k L u f0 tl tp qo (va_up fo 0 (nI (ndC L (dNow u) i w)).toInt64)) H := hP
  have hD9 : va_D A (wX g k L u f0 tl tp qo (va_up fo 0 (nI (ndC L (dNow u) i w)).toInt64)) := hD
  exact W.iret (v := nI 0) hx hb hr (fun tt9 ht9 hW9 => ⟨⟨_, (), rfl, rfl, ⟨by rw [ht9]; exact hP9, hD9⟩⟩, hS.F ht9⟩) hS.2.2 d_Law_node_22
set_option maxHeartbeats 4000000 in
set_option maxRecDepth 100000 in
theorem h_at (l : Launch) (htr : l.stackTraces = false) (D : va_G) (g : Nat → Nat) (k : Nat → ClassId) (L : Nat) (hL0 : 96 ≤ L) (hL : L ≤ 768) (u : DSt) (f0 : Nat → Int32) (tl : Nat) (tp : Nat → Int32) (qo : Nat) (fo : Nat → Int64) (b j : Nat) (cm : Bool) (hb0 : b < L) (hj0 : j < 64) : MuH l y_Law_at w_Law_at ({ frames := 8, cells := 1, slots := 6, locals := 134 }) [.ref (g 9), .int (nI b), .int (nI j), .int (zI (cm)), .ref qo] D cl5 (tyC k) (wX g k L u f0 tl tp qo fo) (wX g k L u f0 tl tp qo (va_up fo 0 (nI (if cm then bN L (dCom u) (nI (b * 64 + j)) else bN L (dNow u) (nI (b * 64 + j)))).toInt64)) (nI 0) := by
  intro sz
  refine xx_ofWH (cc := b_Law_at) (maxL := 6) (ret := (some .int)) (by decide) rfl ?_
  intro p9 e9 s m args9 below9 meth9 c9 s₁ B hml hv
  obtain ⟨rfl, ⟨hsz, hP, hK, hD0⟩, hX⟩ := hv
  have hx := B.exec
  have hb := B.bytes
  have hr := B.returns
  have hts := atoms_spec (ws := w_Law_at) B.pre
  have hTB : ∀ w ∈ lw_tb, w.before _ s = true := fun w h => hts w (List.mem_cons_of_mem _ h)
  have hown : s.vm.findClass R_Law = some m.cls := findClass_of_methodNamed B.named
  have hlocks := B.notSynchronized
  have htab := vx_table (x := y_Law_at) B (hts _ List.mem_cons_self)
  subst hsz
  have hD := hD0.self (sz := s.heap.size)
  generalize hAe : va_A (wX g k L u f0 tl tp qo fo) s.heap.size = A at hD ⊢
  have hA : ∀ q : Nat, s.heap.size ≤ q → A q := fun q h => by rw [← hAe]; exact Or.inr h
  have hS : va_S A s.heap s.heap [] := va_S.rf
  have hl := lv_entry ([.ref (g 9), .int (nI b), .int (nI j), .int (zI (cm)), .ref qo]) (n := 6) (Nat.le_of_ble_eq_true rfl)
  rw [lg_entry_eq]
  generalize (lg_sl ([.ref (g 9), .int (nI b), .int (nI j), .int (zI (cm)), .ref qo]) ++ List.replicate (6 - (lg_sl ([.ref (g 9), .int (nI b), .int (nI j), .int (zI (cm)), .ref qo])).length) Slot.unset).toArray = ls at hl ⊢
  have hl : lv_has ls 6 [(0, .ref (g 9)), (1, .int (nI b)), (2, .int (nI j)), (3, .int (zI (cm))), (4, .ref qo)] := hl
  refine lv_aload hx hb d_Law_at_0 (lv_at hl 4 rfl) ?_
  refine lv_iconst (v := nI 0) hx hb d_Law_at_2 (by decide +kernel) ?_
  refine lv_aload_n hx hb d_Law_at_3 rfl (lv_at hl 0 rfl) ?_
  refine lv_iload_n hx hb d_Law_at_4 rfl (lv_at hl 1 rfl) ?_
  refine lv_iload_n hx hb d_Law_at_5 rfl (lv_at hl 2 rfl) ?_
  refine lv_iload_n hx hb d_Law_at_6 rfl (lv_at hl 3 rfl) ?_
  refine gz_roV (As := [.int (nI b), .int (nI j), .int (zI (cm))]) (rest := [.int (nI 0), .ref qo]) (wc := (wT g k L u f0 tl tp)) ⟨hx, hb, hml, hown, hTB⟩ (c_Tree_at l D g k L hL0 hL u f0 tl tp b j cm hb0 hj0) (cwV 3 hTB (gd_V k_561 k_562 k_563 k_51 k_564) rfl rfl rfl (by decide +kernel) ⟨Nat.le_of_ble_eq_true rfl, Nat.le_of_ble_eq_true rfl⟩) hK hP [0, 1, 2, 3, 4, 5, 6, 7, 8, 9, 10] rfl 0 rfl rfl rfl hl.1 rfl (Nat.le_of_ble_eq_true rfl) d_Law_at_7 ⟨Nat.le_of_ble_eq_true rfl, Nat.le_of_ble_eq_true rfl⟩ hS (fun H locs hP hS => ?_)
  refine lv_i2l hx hb d_Law_at_10 rfl ?_
  refine gz_last hx hb hK hP hD hS 11 0 rfl rfl (i := 0) (by omega) (by omega) d_Law_at_11 (fun H locs hP hD hS => ?_)
  have hP : va_P D cl5 (wX g k L u f0 tl tp qo (va_up (fo) 0 ((nI (if cm then bN L (dCom u) (nI (b * 64 + j)) else bN L (dNow u) (nI (b * 64 + j)))).toInt64))) H := hP
  have hD : va_D A (wX g k L u f0 tl tp qo (va_up (fo) 0 ((nI (if cm then bN L (dCom u) (nI (b * 64 + j)) else bN L (dNow u) (nI (b * 64 + j)))).toInt64))) := hD
  refine lv_goto (tgt := 19) hx hb d_Law_at_12 (by decide) ?_
  refine lv_iconst (v := nI 0) hx hb d_Law_at_19 (by decide +kernel) ?_
  refine W.widen (k := 1) (n := 6) (Nat.le_of_ble_eq_true rfl) (Nat.le_of_ble_eq_true rfl) ?_
  have hP9 : va_P D cl5 (wX g k L u f0 tl tp qo (va_up fo 0 (nI (if cm then bN L (dCom u) (nI (b * 64 + j)) else bN L (dNow u) (nI (b * 64 + j)))).toInt64)) H := hP
  have hD9 : va_D A (wX g k L u f0 tl tp qo (va_up fo 0 (nI (if cm then bN L (dCom u) (nI (b * 64 + j)) else bN L (dNow u) (nI (b * 64 + j)))).toInt64)) := hD
  exact W.iret (v := nI 0) hx hb hr (fun tt9 ht9 hW9 => ⟨⟨_, (), rfl, rfl, ⟨by rw [ht9]; exact hP9, hD9⟩⟩, hS.F ht9⟩) hS.2.2 d_Law_at_20
set_option maxHeartbeats 4000000 in
set_option maxRecDepth 100000 in
theorem h_changed (l : Launch) (htr : l.stackTraces = false) (D : va_G) (g : Nat → Nat) (k : Nat → ClassId) (L : Nat) (hL0 : 96 ≤ L) (hL : L ≤ 768) (u : DSt) (f0 : Nat → Int32) (tl : Nat) (tp : Nat → Int32) (qo : Nat) (fo : Nat → Int64) (x : Int32) (hx0 : ¬ dbk L (dDif u) x = -1) : MuH l y_Law_changed w_Law_changed ({ frames := 8, cells := 1, slots := 6, locals := 132 }) [.ref (g 9), .int (x), .ref qo] D cl5 (tyC k) (wX g k L u f0 tl tp qo fo) (wX g k L u f0 tl tp qo (va_up fo 0 (dbk L (dDif u) x).toInt64)) (nI 0) := by
  intro sz
  refine xx_ofWH (cc := b_Law_changed) (maxL := 4) (ret := (some .int)) (by decide) rfl ?_
  intro p9 e9 s m args9 below9 meth9 c9 s₁ B hml hv
  obtain ⟨rfl, ⟨hsz, hP, hK, hD0⟩, hX⟩ := hv
  have hx := B.exec
  have hb := B.bytes
  have hr := B.returns
  have hts := atoms_spec (ws := w_Law_changed) B.pre
  have hTB : ∀ w ∈ lw_tb, w.before _ s = true := fun w h => hts w (List.mem_cons_of_mem _ h)
  have hown : s.vm.findClass R_Law = some m.cls := findClass_of_methodNamed B.named
  have hlocks := B.notSynchronized
  have htab := vx_table (x := y_Law_changed) B (hts _ List.mem_cons_self)
  subst hsz
  have hD := hD0.self (sz := s.heap.size)
  generalize hAe : va_A (wX g k L u f0 tl tp qo fo) s.heap.size = A at hD ⊢
  have hA : ∀ q : Nat, s.heap.size ≤ q → A q := fun q h => by rw [← hAe]; exact Or.inr h
  have hS : va_S A s.heap s.heap [] := va_S.rf
  have hl := lv_entry ([.ref (g 9), .int (x), .ref qo]) (n := 4) (Nat.le_of_ble_eq_true rfl)
  rw [lg_entry_eq]
  generalize (lg_sl ([.ref (g 9), .int (x), .ref qo]) ++ List.replicate (4 - (lg_sl ([.ref (g 9), .int (x), .ref qo])).length) Slot.unset).toArray = ls at hl ⊢
  have hl : lv_has ls 4 [(0, .ref (g 9)), (1, .int (x)), (2, .ref qo)] := hl
  refine lv_aload_n hx hb d_Law_changed_0 rfl (lv_at hl 2 rfl) ?_
  refine lv_iconst (v := nI 0) hx hb d_Law_changed_1 (by decide +kernel) ?_
  refine lv_aload_n hx hb d_Law_changed_2 rfl (lv_at hl 0 rfl) ?_
  refine lv_iload_n hx hb d_Law_changed_3 rfl (lv_at hl 1 rfl) ?_
  refine gz_roV (As := [.int (x)]) (rest := [.int (nI 0), .ref qo]) (wc := (wT g k L u f0 tl tp)) ⟨hx, hb, hml, hown, hTB⟩ (c_Tree_changed l D g k L hL0 hL u f0 tl tp x hx0) (cwV 1 hTB (gd_V k_577 k_578 k_579 k_51 k_580) rfl rfl rfl (by decide +kernel) ⟨Nat.le_of_ble_eq_true rfl, Nat.le_of_ble_eq_true rfl⟩) hK hP [0, 1, 2, 3, 4, 5, 6, 7, 8, 9, 10] rfl 0 rfl rfl rfl hl.1 rfl (Nat.le_of_ble_eq_true rfl) d_Law_changed_4 ⟨Nat.le_of_ble_eq_true rfl, Nat.le_of_ble_eq_true rfl⟩ hS (fun H locs hP hS => ?_)
  refine lv_i2l hx hb d_Law_changed_7 rfl ?_
  refine gz_last hx hb hK hP hD hS 11 0 rfl rfl (i := 0) (by omega) (by omega) d_Law_changed_8 (fun H locs hP hD hS => ?_)
  have hP : va_P D cl5 (wX g k L u f0 tl tp qo (va_up (fo) 0 ((dbk L (dDif u) x).toInt64))) H := hP
  have hD : va_D A (wX g k L u f0 tl tp qo (va_up (fo) 0 ((dbk L (dDif u) x).toInt64))) := hD
  refine lv_goto (tgt := 15) hx hb d_Law_changed_9 (by decide) ?_
  refine lv_iconst (v := nI 0) hx hb d_Law_changed_15 (by decide +kernel) ?_
  refine W.widen (k := 1) (n := 6) (Nat.le_of_ble_eq_true rfl) (Nat.le_of_ble_eq_true rfl) ?_
  have hP9 : va_P D cl5 (wX g k L u f0 tl tp qo (va_up fo 0 (dbk L (dDif u) x).toInt64)) H := hP
  have hD9 : va_D A (wX g k L u f0 tl tp qo (va_up fo 0 (dbk L (dDif u) x).toInt64)) := hD
  exact W.iret (v := nI 0) hx hb hr (fun tt9 ht9 hW9 => ⟨⟨_, (), rfl, rfl, ⟨by rw [ht9]; exact hP9, hD9⟩⟩, hS.F ht9⟩) hS.2.2 d_Law_changed_16
set_option maxHeartbeats 4000000 in
set_option maxRecDepth 100000 in
theorem h_look (l : Launch) (htr : l.stackTraces = false) (D : va_G) (g : Nat → Nat) (k : Nat → ClassId) (L : Nat) (hL0 : 96 ≤ L) (hL : L ≤ 768) (u : DSt) (f0 : Nat → Int32) (tl : Nat) (tp : Nat → Int32) (qo : Nat) (fo : Nat → Int64) (w : Nat) (hw0 : w ≤ 6) : MuH l y_Law_look w_Law_look ({ frames := 8, cells := 1, slots := 6, locals := 131 }) [.ref (g 9), .int (nI w), .ref qo] D cl5 (tyC k) (wX g k L u f0 tl tp qo fo) (wX g k L u f0 tl tp qo (va_up fo 0 (lkC L u tl w).toInt64)) (nI 0) := by
  intro sz
  refine xx_ofWH (cc := b_Law_look) (maxL := 4) (ret := (some .int)) (by decide) rfl ?_
  intro p9 e9 s m args9 below9 meth9 c9 s₁ B hml hv
  obtain ⟨rfl, ⟨hsz, hP, hK, hD0⟩, hX⟩ := hv
  have hx := B.exec
  have hb := B.bytes
  have hr := B.returns
  have hts := atoms_spec (ws := w_Law_look) B.pre
  have hTB : ∀ w ∈ lw_tb, w.before _ s = true := fun w h => hts w (List.mem_cons_of_mem _ h)
  have hown : s.vm.findClass R_Law = some m.cls := findClass_of_methodNamed B.named
  have hlocks := B.notSynchronized
  have htab := vx_table (x := y_Law_look) B (hts _ List.mem_cons_self)
  subst hsz
  have hD := hD0.self (sz := s.heap.size)
  generalize hAe : va_A (wX g k L u f0 tl tp qo fo) s.heap.size = A at hD ⊢
  have hA : ∀ q : Nat, s.heap.size ≤ q → A q := fun q h => by rw [← hAe]; exact Or.inr h
  have hS : va_S A s.heap s.heap [] := va_S.rf
  have hl := lv_entry ([.ref (g 9), .int (nI w), .ref qo]) (n := 4) (Nat.le_of_ble_eq_true rfl)
  rw [lg_entry_eq]
  generalize (lg_sl ([.ref (g 9), .int (nI w), .ref qo]) ++ List.replicate (4 - (lg_sl ([.ref (g 9), .int (nI w), .ref qo])).length) Slot.unset).toArray = ls at hl ⊢
  have hl : lv_has ls 4 [(0, .ref (g 9)), (1, .int (nI w)), (2, .ref qo)] := hl
  refine lv_aload_n hx hb d_Law_look_0 rfl (lv_at hl 2 rfl) ?_
  refine lv_iconst (v := nI 0) hx hb d_Law_look_1 (by decide +kernel) ?_
  refine lv_aload_n hx hb d_Law_look_2 rfl (lv_at hl 0 rfl) ?_
  refine lv_iload_n hx hb d_Law_look_3 rfl (lv_at hl 1 rfl) ?_
  refine gz_roV (As := [.int (nI w)]) (rest := [.int (nI 0), .ref qo]) (wc := (wT g k L u f0 tl tp)) ⟨hx, hb, hml, hown, hTB⟩ (c_Tree_look l D g k L hL0 hL u f0 tl tp w hw0) (cwV 1 hTB (gd_V k_589 k_590 k_591 k_51 k_592) rfl rfl rfl (by decide +kernel) ⟨Nat.le_of_ble_eq_true rfl, Nat.le_of_ble_eq_true rfl⟩) hK hP [0, 1, 2, 3, 4, 5, 6, 7, 8, 9, 10] rfl 0 rfl rfl rfl hl.1 rfl (Nat.le_of_ble_eq_true rfl) d_Law_look_4 ⟨Nat.le_of_ble_eq_true rfl, Nat.le_of_ble_eq_true rfl⟩ hS (fun H locs hP hS => ?_)
  refine lv_i2l hx hb d_Law_look_7 rfl ?_
  refine gz_last hx hb hK hP hD hS 11 0 rfl rfl (i := 0) (by omega) (by omega) d_Law_look_8 (fun H locs hP hD hS => ?_)
  have hP : va_P D cl5 (wX g k L u f0 tl tp qo (va_up (fo) 0 ((lkC L u tl w).toInt64))) H := hP
  have hD : va_D A (wX g k L u f0 tl tp qo (va_up (fo) 0 ((lkC L u tl w).toInt64))) := hD
  refine lv_goto (tgt := 15) hx hb d_Law_look_9 (by decide) ?_
  refine lv_iconst (v := nI 0) hx hb d_Law_look_15 (by decide +kernel) ?_
  refine W.widen (k := 1) (n := 6) (Nat.le_of_ble_eq_true rfl) (Nat.le_of_ble_eq_true rfl) ?_
  have hP9 : va_P D cl5 (wX g k L u f0 tl tp qo (va_up fo 0 (lkC L u tl w).toInt64)) H := hP
  have hD9 : va_D A (wX g k L u f0 tl tp qo (va_up fo 0 (lkC L u tl w).toInt64)) := hD
  exact W.iret (v := nI 0) hx hb hr (fun tt9 ht9 hW9 => ⟨⟨_, (), rfl, rfl, ⟨by rw [ht9]; exact hP9, hD9⟩⟩, hS.F ht9⟩) hS.2.2 d_Law_look_16
set_option maxHeartbeats 4000000 in
set_option maxRecDepth 100000 in
theorem h_feed_x (l : Launch) (htr : l.stackTraces = false) (D : va_G) (g : Nat → Nat) (k : Nat → ClassId) (L : Nat) (hL0 : 96 ≤ L) (hL : L ≤ 768) (u : DSt) (f0 : Nat → Int32) (tl : Nat) (tp : Nat → Int32) (qo : Nat) (fo : Nat → Int64) (x : Int32) (v : Int64) (hbad : x < nI 1 ∨ nI 8 < x) : MuH l y_Law_feed w_Law_feed ({ frames := 8, cells := 1, slots := 6, locals := 134 }) [.ref (g 9), .int (x), .long (v), .ref qo] D cl5 (tyC k) (wX g k L u f0 tl tp qo fo) (wX g k L u f0 tl tp qo fo) (nI 1) := by
  intro sz
  refine xx_ofWH (cc := b_Law_feed) (maxL := 6) (ret := (some .int)) (by decide) rfl ?_
  intro p9 e9 s m args9 below9 meth9 c9 s₁ B hml hv
  obtain ⟨rfl, ⟨hsz, hP, hK, hD0⟩, hX⟩ := hv
  have hx := B.exec
  have hb := B.bytes
  have hr := B.returns
  have hts := atoms_spec (ws := w_Law_feed) B.pre
  have hTB : ∀ w ∈ lw_tb, w.before _ s = true := fun w h => hts w (List.mem_cons_of_mem _ h)
  have hown : s.vm.findClass R_Law = some m.cls := findClass_of_methodNamed B.named
  have hlocks := B.notSynchronized
  have htab := vx_table (x := y_Law_feed) B (hts _ List.mem_cons_self)
  subst hsz
  have hD := hD0.self (sz := s.heap.size)
  generalize hAe : va_A (wX g k L u f0 tl tp qo fo) s.heap.size = A at hD ⊢
  have hA : ∀ q : Nat, s.heap.size ≤ q → A q := fun q h => by rw [← hAe]; exact Or.inr h
  have hS : va_S A s.heap s.heap [] := va_S.rf
  have hl := lv_entry ([.ref (g 9), .int (x), .long (v), .ref qo]) (n := 6) (Nat.le_of_ble_eq_true rfl)
  rw [lg_entry_eq]
  generalize (lg_sl ([.ref (g 9), .int (x), .long (v), .ref qo]) ++ List.replicate (6 - (lg_sl ([.ref (g 9), .int (x), .long (v), .ref qo])).length) Slot.unset).toArray = ls at hl ⊢
  have hl : lv_has ls 6 [(0, .ref (g 9)), (1, .int (x)), (2, .long (v)), (4, .ref qo)] := hl
  refine lv_aload hx hb d_Law_feed_0 (lv_at hl 3 rfl) ?_
  refine lv_iconst (v := nI 0) hx hb d_Law_feed_2 (by decide +kernel) ?_
  refine lv_aload_n hx hb d_Law_feed_3 rfl (lv_at hl 0 rfl) ?_
  refine lv_iload_n hx hb d_Law_feed_4 rfl (lv_at hl 1 rfl) ?_
  refine lv_lload_n hx hb d_Law_feed_5 rfl (lv_at hl 2 rfl) ?_
  refine gz_thVi (As := [.int (x), .long (v)]) (rest := [.int (nI 0), .ref qo]) (wc := (wT g k L u f0 tl tp)) ⟨hx, hb, hml, hown, hTB⟩ (c_Tree_feed_x l htr D g k L hL0 hL u f0 tl tp x v hbad) (cwV 2 hTB (gd_V k_232 k_233 k_234 k_51 k_235) rfl rfl rfl (by decide +kernel) ⟨Nat.le_of_ble_eq_true rfl, Nat.le_of_ble_eq_true rfl⟩) hX hK hP [0, 1, 2, 3, 4, 5, 6, 7, 8, 9, 10] rfl 0 rfl rfl rfl hl.1 rfl (Nat.le_of_ble_eq_true rfl) d_Law_feed_6 ⟨Nat.le_of_ble_eq_true rfl, Nat.le_of_ble_eq_true rfl⟩ hS (name := IAE) [] ⟨0, 11, 14, 13⟩ [⟨0, 11, 18, 15⟩] htab (fun z hz => nomatch hz) (by decide) (by decide) (hTB _ k_230) (by decide +kernel) (fun q9 H locs hP hS => ?_)
  refine W.widen (k := 1) (n := 6) (Nat.le_refl _) (Nat.le_refl _) ?_
  refine lv_astore (lv' := [(5, .ref q9), (0, .ref (g 9)), (1, .int (x)), (2, .long (v)), (4, .ref qo)]) hx hb d_Law_feed_14 hl (by decide) rfl (fun ls hl => ?_)
  refine lv_iconst (v := nI 1) hx hb d_Law_feed_16 (by decide +kernel) ?_
  refine W.widen (k := 1) (n := 6) (Nat.le_of_ble_eq_true rfl) (Nat.le_of_ble_eq_true rfl) ?_
  have hP9 : va_P D cl5 (wX g k L u f0 tl tp qo fo) H := hP
  have hD9 : va_D A (wX g k L u f0 tl tp qo fo) := hD
  exact W.iret (v := nI 1) hx hb hr (fun tt9 ht9 hW9 => ⟨⟨_, (), rfl, rfl, ⟨by rw [ht9]; exact hP9, hD9⟩⟩, hS.F ht9⟩) hS.2.2 d_Law_feed_17
set_option maxHeartbeats 4000000 in
set_option maxRecDepth 100000 in
theorem h_feed_y (l : Launch) (htr : l.stackTraces = false) (D : va_G) (g : Nat → Nat) (k : Nat → ClassId) (L : Nat) (hL0 : 96 ≤ L) (hL : L ≤ 768) (u : DSt) (f0 : Nat → Int32) (tl : Nat) (tp : Nat → Int32) (qo : Nat) (fo : Nat → Int64) (n : Nat) (v : Int64) (hn1 : 1 ≤ n) (hn2 : n ≤ 8) (ht1 : tl ≤ 512) (ht0 : 512 < tl + n) : MuH l y_Law_feed w_Law_feed ({ frames := 8, cells := 1, slots := 6, locals := 134 }) [.ref (g 9), .int (nI n), .long (v), .ref qo] D cl5 (tyC k) (wX g k L u f0 tl tp qo fo) (wX g k L u f0 tl tp qo fo) (nI 2) := by
  intro sz
  refine xx_ofWH (cc := b_Law_feed) (maxL := 6) (ret := (some .int)) (by decide) rfl ?_
  intro p9 e9 s m args9 below9 meth9 c9 s₁ B hml hv
  obtain ⟨rfl, ⟨hsz, hP, hK, hD0⟩, hX⟩ := hv
  have hx := B.exec
  have hb := B.bytes
  have hr := B.returns
  have hts := atoms_spec (ws := w_Law_feed) B.pre
  have hTB : ∀ w ∈ lw_tb, w.before _ s = true := fun w h => hts w (List.mem_cons_of_mem _ h)
  have hown : s.vm.findClass R_Law = some m.cls := findClass_of_methodNamed B.named
  have hlocks := B.notSynchronized
  have htab := vx_table (x := y_Law_feed) B (hts _ List.mem_cons_self)
  subst hsz
  have hD := hD0.self (sz := s.heap.size)
  generalize hAe : va_A (wX g k L u f0 tl tp qo fo) s.heap.size = A at hD ⊢
  have hA : ∀ q : Nat, s.heap.size ≤ q → A q := fun q h => by rw [← hAe]; exact Or.inr h
  have hS : va_S A s.heap s.heap [] := va_S.rf
  have hl := lv_entry ([.ref (g 9), .int (nI n), .long (v), .ref qo]) (n := 6) (Nat.le_of_ble_eq_true rfl)
  rw [lg_entry_eq]
  generalize (lg_sl ([.ref (g 9), .int (nI n), .long (v), .ref qo]) ++ List.replicate (6 - (lg_sl ([.ref (g 9), .int (nI n), .long (v), .ref qo])).length) Slot.unset).toArray = ls at hl ⊢
  have hl : lv_has ls 6 [(0, .ref (g 9)), (1, .int (nI n)), (2, .long (v)), (4, .ref qo)] := hl
  refine lv_aload hx hb d_Law_feed_0 (lv_at hl 3 rfl) ?_
  refine lv_iconst (v := nI 0) hx hb d_Law_feed_2 (by decide +kernel) ?_
  refine lv_aload_n hx hb d_Law_feed_3 rfl (lv_at hl 0 rfl) ?_
  refine lv_iload_n hx hb d_Law_feed_4 rfl (lv_at hl 1 rfl) ?_
  refine lv_lload_n hx hb d_Law_feed_5 rfl (lv_at hl 2 rfl) ?_
  refine gz_thVi (As := [.int (nI n), .long (v)]) (rest := [.int (nI 0), .ref qo]) (wc := (wT g k L u f0 tl tp)) ⟨hx, hb, hml, hown, hTB⟩ (c_Tree_feed_y l htr D g k L hL0 hL u f0 tl tp n v hn1 hn2 ht1 ht0) (cwV 2 hTB (gd_V k_232 k_233 k_234 k_51 k_235) rfl rfl rfl (by decide +kernel) ⟨Nat.le_of_ble_eq_true rfl, Nat.le_of_ble_eq_true rfl⟩) hX hK hP [0, 1, 2, 3, 4, 5, 6, 7, 8, 9, 10] rfl 0 rfl rfl rfl hl.1 rfl (Nat.le_of_ble_eq_true rfl) d_Law_feed_6 ⟨Nat.le_of_ble_eq_true rfl, Nat.le_of_ble_eq_true rfl⟩ hS (name := ISE) [⟨0, 11, 14, 13⟩] ⟨0, 11, 18, 15⟩ [] htab (fun z hz => by
      rw [List.mem_singleton] at hz
      subst hz
      exact Or.inr ⟨by decide, _, hTB _ k_230, hX.2.2.2.1⟩) (by decide) (by decide) (hTB _ k_231) (by decide +kernel) (fun q9 H locs hP hS => ?_)
  refine W.widen (k := 1) (n := 6) (Nat.le_refl _) (Nat.le_refl _) ?_
  refine lv_astore (lv' := [(5, .ref q9), (0, .ref (g 9)), (1, .int (nI n)), (2, .long (v)), (4, .ref qo)]) hx hb d_Law_feed_18 hl (by decide) rfl (fun ls hl => ?_)
  refine lv_iconst (v := nI 2) hx hb d_Law_feed_20 (by decide +kernel) ?_
  refine W.widen (k := 1) (n := 6) (Nat.le_of_ble_eq_true rfl) (Nat.le_of_ble_eq_true rfl) ?_
  have hP9 : va_P D cl5 (wX g k L u f0 tl tp qo fo) H := hP
  have hD9 : va_D A (wX g k L u f0 tl tp qo fo) := hD
  exact W.iret (v := nI 2) hx hb hr (fun tt9 ht9 hW9 => ⟨⟨_, (), rfl, rfl, ⟨by rw [ht9]; exact hP9, hD9⟩⟩, hS.F ht9⟩) hS.2.2 d_Law_feed_21
set_option maxHeartbeats 4000000 in
set_option maxRecDepth 100000 in
theorem h_make_x (l : Launch) (htr : l.stackTraces = false) (D : va_G) (g : Nat → Nat) (k : Nat → ClassId) (L : Nat) (hL0 : 96 ≤ L) (hL : L ≤ 768) (u : DSt) (f0 : Nat → Int32) (tl : Nat) (tp : Nat → Int32) (qo : Nat) (fo : Nat → Int64) (x y : Int32) (b : Bool) (hbad : x < 0 ∨ nI 64 ≤ x) : MuH l y_Law_make w_Law_make ({ frames := 9, cells := 1, slots := 6, locals := 229 }) [.ref (g 9), .int (x), .int (y), .int (zI (b)), .ref qo] D cl5 (tyC k) (wX g k L u f0 tl tp qo fo) (wX g k L u f0 tl tp qo fo) (nI 1) := by
  intro sz
  refine xx_ofWH (cc := b_Law_make) (maxL := 6) (ret := (some .int)) (by decide) rfl ?_
  intro p9 e9 s m args9 below9 meth9 c9 s₁ B hml hv
  obtain ⟨rfl, ⟨hsz, hP, hK, hD0⟩, hX⟩ := hv
  have hx := B.exec
  have hb := B.bytes
  have hr := B.returns
  have hts := atoms_spec (ws := w_Law_make) B.pre
  have hTB : ∀ w ∈ lw_tb, w.before _ s = true := fun w h => hts w (List.mem_cons_of_mem _ h)
  have hown : s.vm.findClass R_Law = some m.cls := findClass_of_methodNamed B.named
  have hlocks := B.notSynchronized
  have htab := vx_table (x := y_Law_make) B (hts _ List.mem_cons_self)
  subst hsz
  have hD := hD0.self (sz := s.heap.size)
  generalize hAe : va_A (wX g k L u f0 tl tp qo fo) s.heap.size = A at hD ⊢
  have hA : ∀ q : Nat, s.heap.size ≤ q → A q := fun q h => by rw [← hAe]; exact Or.inr h
  have hS : va_S A s.heap s.heap [] := va_S.rf
  have hl := lv_entry ([.ref (g 9), .int (x), .int (y), .int (zI (b)), .ref qo]) (n := 6) (Nat.le_of_ble_eq_true rfl)
  rw [lg_entry_eq]
  generalize (lg_sl ([.ref (g 9), .int (x), .int (y), .int (zI (b)), .ref qo]) ++ List.replicate (6 - (lg_sl ([.ref (g 9), .int (x), .int (y), .int (zI (b)), .ref qo])).length) Slot.unset).toArray = ls at hl ⊢
  have hl : lv_has ls 6 [(0, .ref (g 9)), (1, .int (x)), (2, .int (y)), (3, .int (zI (b))), (4, .ref qo)] := hl
  refine lv_aload hx hb d_Law_make_0 (lv_at hl 4 rfl) ?_
  refine lv_iconst (v := nI 0) hx hb d_Law_make_2 (by decide +kernel) ?_
  refine lv_aload_n hx hb d_Law_make_3 rfl (lv_at hl 0 rfl) ?_
  refine lv_iload_n hx hb d_Law_make_4 rfl (lv_at hl 1 rfl) ?_
  refine lv_iload_n hx hb d_Law_make_5 rfl (lv_at hl 2 rfl) ?_
  refine lv_iload_n hx hb d_Law_make_6 rfl (lv_at hl 3 rfl) ?_
  refine gz_thVi (As := [.int (x), .int (y), .int (zI (b))]) (rest := [.int (nI 0), .ref qo]) (wc := (wT g k L u f0 tl tp)) ⟨hx, hb, hml, hown, hTB⟩ (c_Tree_make_x l htr D g k L hL0 hL u f0 tl tp x y b hbad) (cwV 3 hTB (gd_V k_323 k_324 k_325 k_51 k_326) rfl rfl rfl (by decide +kernel) ⟨Nat.le_of_ble_eq_true rfl, Nat.le_of_ble_eq_true rfl⟩) hX hK hP [0, 1, 2, 3, 4, 5, 6, 7, 8, 9, 10] rfl 0 rfl rfl rfl hl.1 rfl (Nat.le_of_ble_eq_true rfl) d_Law_make_7 ⟨Nat.le_of_ble_eq_true rfl, Nat.le_of_ble_eq_true rfl⟩ hS (name := IAE) [] ⟨0, 12, 15, 13⟩ [] htab (fun z hz => nomatch hz) (by decide) (by decide) (hTB _ k_230) (by decide +kernel) (fun q9 H locs hP hS => ?_)
  refine W.widen (k := 1) (n := 6) (Nat.le_refl _) (Nat.le_refl _) ?_
  refine lv_astore (lv' := [(5, .ref q9), (0, .ref (g 9)), (1, .int (x)), (2, .int (y)), (3, .int (zI (b))), (4, .ref qo)]) hx hb d_Law_make_15 hl (by decide) rfl (fun ls hl => ?_)
  refine lv_iconst (v := nI 1) hx hb d_Law_make_17 (by decide +kernel) ?_
  refine W.widen (k := 1) (n := 6) (Nat.le_of_ble_eq_true rfl) (Nat.le_of_ble_eq_true rfl) ?_
  have hP9 : va_P D cl5 (wX g k L u f0 tl tp qo fo) H := hP
  have hD9 : va_D A (wX g k L u f0 tl tp qo fo) := hD
  exact W.iret (v := nI 1) hx hb hr (fun tt9 ht9 hW9 => ⟨⟨_, (), rfl, rfl, ⟨by rw [ht9]; exact hP9, hD9⟩⟩, hS.F ht9⟩) hS.2.2 d_Law_make_18
set_option maxHeartbeats 4000000 in
set_option maxRecDepth 100000 in
theorem h_make_y (l : Launch) (htr : l.stackTraces = false) (D : va_G) (g : Nat → Nat) (k : Nat → ClassId) (L : Nat) (hL0 : 96 ≤ L) (hL : L ≤ 768) (u : DSt) (f0 : Nat → Int32) (tl : Nat) (tp : Nat → Int32) (qo : Nat) (fo : Nat → Int64) (d : Nat) (y : Int32) (b : Bool) (hd0 : d < 64) (hbad : y < nI 1 ∨ nI 65535 < y) : MuH l y_Law_make w_Law_make ({ frames := 9, cells := 1, slots := 6, locals := 229 }) [.ref (g 9), .int (nI d), .int (y), .int (zI (b)), .ref qo] D cl5 (tyC k) (wX g k L u f0 tl tp qo fo) (wX g k L u f0 tl tp qo fo) (nI 1) := by
  intro sz
  refine xx_ofWH (cc := b_Law_make) (maxL := 6) (ret := (some .int)) (by decide) rfl ?_
  intro p9 e9 s m args9 below9 meth9 c9 s₁ B hml hv
  obtain ⟨rfl, ⟨hsz, hP, hK, hD0⟩, hX⟩ := hv
  have hx := B.exec
  have hb := B.bytes
  have hr := B.returns
  have hts := atoms_spec (ws := w_Law_make) B.pre
  have hTB : ∀ w ∈ lw_tb, w.before _ s = true := fun w h => hts w (List.mem_cons_of_mem _ h)
  have hown : s.vm.findClass R_Law = some m.cls := findClass_of_methodNamed B.named
  have hlocks := B.notSynchronized
  have htab := vx_table (x := y_Law_make) B (hts _ List.mem_cons_self)
  subst hsz
  have hD := hD0.self (sz := s.heap.size)
  generalize hAe : va_A (wX g k L u f0 tl tp qo fo) s.heap.size = A at hD ⊢
  have hA : ∀ q : Nat, s.heap.size ≤ q → A q := fun q h => by rw [← hAe]; exact Or.inr h
  have hS : va_S A s.heap s.heap [] := va_S.rf
  have hl := lv_entry ([.ref (g 9), .int (nI d), .int (y), .int (zI (b)), .ref qo]) (n := 6) (Nat.le_of_ble_eq_true rfl)
  rw [lg_entry_eq]
  generalize (lg_sl ([.ref (g 9), .int (nI d), .int (y), .int (zI (b)), .ref qo]) ++ List.replicate (6 - (lg_sl ([.ref (g 9), .int (nI d), .int (y), .int (zI (b)), .ref qo])).length) Slot.unset).toArray = ls at hl ⊢
  have hl : lv_has ls 6 [(0, .ref (g 9)), (1, .int (nI d)), (2, .int (y)), (3, .int (zI (b))), (4, .ref qo)] := hl
  refine lv_aload hx hb d_Law_make_0 (lv_at hl 4 rfl) ?_
  refine lv_iconst (v := nI 0) hx hb d_Law_make_2 (by decide +kernel) ?_
  refine lv_aload_n hx hb d_Law_make_3 rfl (lv_at hl 0 rfl) ?_
  refine lv_iload_n hx hb d_Law_make_4 rfl (lv_at hl 1 rfl) ?_
  refine lv_iload_n hx hb d_Law_make_5 rfl (lv_at hl 2 rfl) ?_
  refine lv_iload_n hx hb d_Law_make_6 rfl (lv_at hl 3 rfl) ?_
  refine gz_thVi (As := [.int (nI d), .int (y), .int (zI (b))]) (rest := [.int (nI 0), .ref qo]) (wc := (wT g k L u f0 tl tp)) ⟨hx, hb, hml, hown, hTB⟩ (c_Tree_make_y l htr D g k L hL0 hL u f0 tl tp d y b hd0 hbad) (cwV 3 hTB (gd_V k_323 k_324 k_325 k_51 k_326) rfl rfl rfl (by decide +kernel) ⟨Nat.le_of_ble_eq_true rfl, Nat.le_of_ble_eq_true rfl⟩) hX hK hP [0, 1, 2, 3, 4, 5, 6, 7, 8, 9, 10] rfl 0 rfl rfl rfl hl.1 rfl (Nat.le_of_ble_eq_true rfl) d_Law_make_7 ⟨Nat.le_of_ble_eq_true rfl, Nat.le_of_ble_eq_true rfl⟩ hS (name := IAE) [] ⟨0, 12, 15, 13⟩ [] htab (fun z hz => nomatch hz) (by decide) (by decide) (hTB _ k_230) (by decide +kernel) (fun q9 H locs hP hS => ?_)
  refine W.widen (k := 1) (n := 6) (Nat.le_refl _) (Nat.le_refl _) ?_
  refine lv_astore (lv' := [(5, .ref q9), (0, .ref (g 9)), (1, .int (nI d)), (2, .int (y)), (3, .int (zI (b))), (4, .ref qo)]) hx hb d_Law_make_15 hl (by decide) rfl (fun ls hl => ?_)
  refine lv_iconst (v := nI 1) hx hb d_Law_make_17 (by decide +kernel) ?_
  refine W.widen (k := 1) (n := 6) (Nat.le_of_ble_eq_true rfl) (Nat.le_of_ble_eq_true rfl) ?_
  have hP9 : va_P D cl5 (wX g k L u f0 tl tp qo fo) H := hP
  have hD9 : va_D A (wX g k L u f0 tl tp qo fo) := hD
  exact W.iret (v := nI 1) hx hb hr (fun tt9 ht9 hW9 => ⟨⟨_, (), rfl, rfl, ⟨by rw [ht9]; exact hP9, hD9⟩⟩, hS.F ht9⟩) hS.2.2 d_Law_make_18
set_option maxHeartbeats 4000000 in
set_option maxRecDepth 100000 in
theorem h_find_x (l : Launch) (htr : l.stackTraces = false) (D : va_G) (g : Nat → Nat) (k : Nat → ClassId) (L : Nat) (hL0 : 96 ≤ L) (hL : L ≤ 768) (u : DSt) (f0 : Nat → Int32) (tl : Nat) (tp : Nat → Int32) (qo : Nat) (fo : Nat → Int64) (x y : Int32) (hbad : x < 0 ∨ nI 64 ≤ x) : MuH l y_Law_find w_Law_find ({ frames := 9, cells := 1, slots := 6, locals := 162 }) [.ref (g 9), .int (x), .int (y), .ref qo] D cl5 (tyC k) (wX g k L u f0 tl tp qo fo) (wX g k L u f0 tl tp qo fo) (nI 1) := by
  intro sz
  refine xx_ofWH (cc := b_Law_find) (maxL := 5) (ret := (some .int)) (by decide) rfl ?_
  intro p9 e9 s m args9 below9 meth9 c9 s₁ B hml hv
  obtain ⟨rfl, ⟨hsz, hP, hK, hD0⟩, hX⟩ := hv
  have hx := B.exec
  have hb := B.bytes
  have hr := B.returns
  have hts := atoms_spec (ws := w_Law_find) B.pre
  have hTB : ∀ w ∈ lw_tb, w.before _ s = true := fun w h => hts w (List.mem_cons_of_mem _ h)
  have hown : s.vm.findClass R_Law = some m.cls := findClass_of_methodNamed B.named
  have hlocks := B.notSynchronized
  have htab := vx_table (x := y_Law_find) B (hts _ List.mem_cons_self)
  subst hsz
  have hD := hD0.self (sz := s.heap.size)
  generalize hAe : va_A (wX g k L u f0 tl tp qo fo) s.heap.size = A at hD ⊢
  have hA : ∀ q : Nat, s.heap.size ≤ q → A q := fun q h => by rw [← hAe]; exact Or.inr h
  have hS : va_S A s.heap s.heap [] := va_S.rf
  have hl := lv_entry ([.ref (g 9), .int (x), .int (y), .ref qo]) (n := 5) (Nat.le_of_ble_eq_true rfl)
  rw [lg_entry_eq]
  generalize (lg_sl ([.ref (g 9), .int (x), .int (y), .ref qo]) ++ List.replicate (5 - (lg_sl ([.ref (g 9), .int (x), .int (y), .ref qo])).length) Slot.unset).toArray = ls at hl ⊢
  have hl : lv_has ls 5 [(0, .ref (g 9)), (1, .int (x)), (2, .int (y)), (3, .ref qo)] := hl
  refine lv_aload_n hx hb d_Law_find_0 rfl (lv_at hl 3 rfl) ?_
  refine lv_iconst (v := nI 0) hx hb d_Law_find_1 (by decide +kernel) ?_
  refine lv_aload_n hx hb d_Law_find_2 rfl (lv_at hl 0 rfl) ?_
  refine lv_iload_n hx hb d_Law_find_3 rfl (lv_at hl 1 rfl) ?_
  refine lv_iload_n hx hb d_Law_find_4 rfl (lv_at hl 2 rfl) ?_
  refine gz_thVi (As := [.int (x), .int (y)]) (rest := [.int (nI 0), .ref qo]) (wc := (wT g k L u f0 tl tp)) ⟨hx, hb, hml, hown, hTB⟩ (c_Tree_find_x l htr D g k L hL0 hL u f0 tl tp x y hbad) (cwV 2 hTB (gd_V k_442 k_443 k_444 k_51 k_445) rfl rfl rfl (by decide +kernel) ⟨Nat.le_of_ble_eq_true rfl, Nat.le_of_ble_eq_true rfl⟩) hX hK hP [0, 1, 2, 3, 4, 5, 6, 7, 8, 9, 10] rfl 0 rfl rfl rfl hl.1 rfl (Nat.le_of_ble_eq_true rfl) d_Law_find_5 ⟨Nat.le_of_ble_eq_true rfl, Nat.le_of_ble_eq_true rfl⟩ hS (name := IAE) [] ⟨0, 10, 13, 13⟩ [] htab (fun z hz => nomatch hz) (by decide) (by decide) (hTB _ k_230) (by decide +kernel) (fun q9 H locs hP hS => ?_)
  refine W.widen (k := 1) (n := 6) (Nat.le_refl _) (Nat.le_refl _) ?_
  refine lv_astore (lv' := [(4, .ref q9), (0, .ref (g 9)), (1, .int (x)), (2, .int (y)), (3, .ref qo)]) hx hb d_Law_find_13 hl (by decide) rfl (fun ls hl => ?_)
  refine lv_iconst (v := nI 1) hx hb d_Law_find_15 (by decide +kernel) ?_
  refine W.widen (k := 1) (n := 6) (Nat.le_of_ble_eq_true rfl) (Nat.le_of_ble_eq_true rfl) ?_
  have hP9 : va_P D cl5 (wX g k L u f0 tl tp qo fo) H := hP
  have hD9 : va_D A (wX g k L u f0 tl tp qo fo) := hD
  exact W.iret (v := nI 1) hx hb hr (fun tt9 ht9 hW9 => ⟨⟨_, (), rfl, rfl, ⟨by rw [ht9]; exact hP9, hD9⟩⟩, hS.F ht9⟩) hS.2.2 d_Law_find_16
set_option maxHeartbeats 4000000 in
set_option maxRecDepth 100000 in
theorem h_find_y (l : Launch) (htr : l.stackTraces = false) (D : va_G) (g : Nat → Nat) (k : Nat → ClassId) (L : Nat) (hL0 : 96 ≤ L) (hL : L ≤ 768) (u : DSt) (f0 : Nat → Int32) (tl : Nat) (tp : Nat → Int32) (qo : Nat) (fo : Nat → Int64) (d : Nat) (y : Int32) (hd0 : d < 64) (hbad : y < nI 1 ∨ nI 65535 < y) : MuH l y_Law_find w_Law_find ({ frames := 9, cells := 1, slots := 6, locals := 162 }) [.ref (g 9), .int (nI d), .int (y), .ref qo] D cl5 (tyC k) (wX g k L u f0 tl tp qo fo) (wX g k L u f0 tl tp qo fo) (nI 1) := by
  intro sz
  refine xx_ofWH (cc := b_Law_find) (maxL := 5) (ret := (some .int)) (by decide) rfl ?_
  intro p9 e9 s m args9 below9 meth9 c9 s₁ B hml hv
  obtain ⟨rfl, ⟨hsz, hP, hK, hD0⟩, hX⟩ := hv
  have hx := B.exec
  have hb := B.bytes
  have hr := B.returns
  have hts := atoms_spec (ws := w_Law_find) B.pre
  have hTB : ∀ w ∈ lw_tb, w.before _ s = true := fun w h => hts w (List.mem_cons_of_mem _ h)
  have hown : s.vm.findClass R_Law = some m.cls := findClass_of_methodNamed B.named
  have hlocks := B.notSynchronized
  have htab := vx_table (x := y_Law_find) B (hts _ List.mem_cons_self)
  subst hsz
  have hD := hD0.self (sz := s.heap.size)
  generalize hAe : va_A (wX g k L u f0 tl tp qo fo) s.heap.size = A at hD ⊢
  have hA : ∀ q : Nat, s.heap.size ≤ q → A q := fun q h => by rw [← hAe]; exact Or.inr h
  have hS : va_S A s.heap s.heap [] := va_S.rf
  have hl := lv_entry ([.ref (g 9), .int (nI d), .int (y), .ref qo]) (n := 5) (Nat.le_of_ble_eq_true rfl)
  rw [lg_entry_eq]
  generalize (lg_sl ([.ref (g 9), .int (nI d), .int (y), .ref qo]) ++ List.replicate (5 - (lg_sl ([.ref (g 9), .int (nI d), .int (y), .ref qo])).length) Slot.unset).toArray = ls at hl ⊢
  have hl : lv_has ls 5 [(0, .ref (g 9)), (1, .int (nI d)), (2, .int (y)), (3, .ref qo)] := hl
  refine lv_aload_n hx hb d_Law_find_0 rfl (lv_at hl 3 rfl) ?_
  refine lv_iconst (v := nI 0) hx hb d_Law_find_1 (by decide +kernel) ?_
  refine lv_aload_n hx hb d_Law_find_2 rfl (lv_at hl 0 rfl) ?_
  refine lv_iload_n hx hb d_Law_find_3 rfl (lv_at hl 1 rfl) ?_
  refine lv_iload_n hx hb d_Law_find_4 rfl (lv_at hl 2 rfl) ?_
  refine gz_thVi (As := [.int (nI d), .int (y)]) (rest := [.int (nI 0), .ref qo]) (wc := (wT g k L u f0 tl tp)) ⟨hx, hb, hml, hown, hTB⟩ (c_Tree_find_y l htr D g k L hL0 hL u f0 tl tp d y hd0 hbad) (cwV 2 hTB (gd_V k_442 k_443 k_444 k_51 k_445) rfl rfl rfl (by decide +kernel) ⟨Nat.le_of_ble_eq_true rfl, Nat.le_of_ble_eq_true rfl⟩) hX hK hP [0, 1, 2, 3, 4, 5, 6, 7, 8, 9, 10] rfl 0 rfl rfl rfl hl.1 rfl (Nat.le_of_ble_eq_true rfl) d_Law_find_5 ⟨Nat.le_of_ble_eq_true rfl, Nat.le_of_ble_eq_true rfl⟩ hS (name := IAE) [] ⟨0, 10, 13, 13⟩ [] htab (fun z hz => nomatch hz) (by decide) (by decide) (hTB _ k_230) (by decide +kernel) (fun q9 H locs hP hS => ?_)
  refine W.widen (k := 1) (n := 6) (Nat.le_refl _) (Nat.le_refl _) ?_
  refine lv_astore (lv' := [(4, .ref q9), (0, .ref (g 9)), (1, .int (nI d)), (2, .int (y)), (3, .ref qo)]) hx hb d_Law_find_13 hl (by decide) rfl (fun ls hl => ?_)
  refine lv_iconst (v := nI 1) hx hb d_Law_find_15 (by decide +kernel) ?_
  refine W.widen (k := 1) (n := 6) (Nat.le_of_ble_eq_true rfl) (Nat.le_of_ble_eq_true rfl) ?_
  have hP9 : va_P D cl5 (wX g k L u f0 tl tp qo fo) H := hP
  have hD9 : va_D A (wX g k L u f0 tl tp qo fo) := hD
  exact W.iret (v := nI 1) hx hb hr (fun tt9 ht9 hW9 => ⟨⟨_, (), rfl, rfl, ⟨by rw [ht9]; exact hP9, hD9⟩⟩, hS.F ht9⟩) hS.2.2 d_Law_find_16
set_option maxHeartbeats 4000000 in
set_option maxRecDepth 100000 in
theorem h_remove_x (l : Launch) (htr : l.stackTraces = false) (D : va_G) (g : Nat → Nat) (k : Nat → ClassId) (L : Nat) (hL0 : 96 ≤ L) (hL : L ≤ 768) (u : DSt) (f0 : Nat → Int32) (tl : Nat) (tp : Nat → Int32) (qo : Nat) (fo : Nat → Int64) (x y : Int32) (hbad : x < 0 ∨ nI 64 ≤ x) : MuH l y_Law_remove w_Law_remove ({ frames := 9, cells := 1, slots := 6, locals := 224 }) [.ref (g 9), .int (x), .int (y), .ref qo] D cl5 (tyC k) (wX g k L u f0 tl tp qo fo) (wX g k L u f0 tl tp qo fo) (nI 1) := by
  intro sz
  refine xx_ofWH (cc := b_Law_remove) (maxL := 5) (ret := (some .int)) (by decide) rfl ?_
  intro p9 e9 s m args9 below9 meth9 c9 s₁ B hml hv
  obtain ⟨rfl, ⟨hsz, hP, hK, hD0⟩, hX⟩ := hv
  have hx := B.exec
  have hb := B.bytes
  have hr := B.returns
  have hts := atoms_spec (ws := w_Law_remove) B.pre
  have hTB : ∀ w ∈ lw_tb, w.before _ s = true := fun w h => hts w (List.mem_cons_of_mem _ h)
  have hown : s.vm.findClass R_Law = some m.cls := findClass_of_methodNamed B.named
  have hlocks := B.notSynchronized
  have htab := vx_table (x := y_Law_remove) B (hts _ List.mem_cons_self)
  subst hsz
  have hD := hD0.self (sz := s.heap.size)
  generalize hAe : va_A (wX g k L u f0 tl tp qo fo) s.heap.size = A at hD ⊢
  have hA : ∀ q : Nat, s.heap.size ≤ q → A q := fun q h => by rw [← hAe]; exact Or.inr h
  have hS : va_S A s.heap s.heap [] := va_S.rf
  have hl := lv_entry ([.ref (g 9), .int (x), .int (y), .ref qo]) (n := 5) (Nat.le_of_ble_eq_true rfl)
  rw [lg_entry_eq]
  generalize (lg_sl ([.ref (g 9), .int (x), .int (y), .ref qo]) ++ List.replicate (5 - (lg_sl ([.ref (g 9), .int (x), .int (y), .ref qo])).length) Slot.unset).toArray = ls at hl ⊢
  have hl : lv_has ls 5 [(0, .ref (g 9)), (1, .int (x)), (2, .int (y)), (3, .ref qo)] := hl
  refine lv_aload_n hx hb d_Law_remove_0 rfl (lv_at hl 3 rfl) ?_
  refine lv_iconst (v := nI 0) hx hb d_Law_remove_1 (by decide +kernel) ?_
  refine lv_aload_n hx hb d_Law_remove_2 rfl (lv_at hl 0 rfl) ?_
  refine lv_iload_n hx hb d_Law_remove_3 rfl (lv_at hl 1 rfl) ?_
  refine lv_iload_n hx hb d_Law_remove_4 rfl (lv_at hl 2 rfl) ?_
  refine gz_thVi (As := [.int (x), .int (y)]) (rest := [.int (nI 0), .ref qo]) (wc := (wT g k L u f0 tl tp)) ⟨hx, hb, hml, hown, hTB⟩ (c_Tree_remove_x l htr D g k L hL0 hL u f0 tl tp x y hbad) (cwV 2 hTB (gd_V k_543 k_544 k_545 k_51 k_546) rfl rfl rfl (by decide +kernel) ⟨Nat.le_of_ble_eq_true rfl, Nat.le_of_ble_eq_true rfl⟩) hX hK hP [0, 1, 2, 3, 4, 5, 6, 7, 8, 9, 10] rfl 0 rfl rfl rfl hl.1 rfl (Nat.le_of_ble_eq_true rfl) d_Law_remove_5 ⟨Nat.le_of_ble_eq_true rfl, Nat.le_of_ble_eq_true rfl⟩ hS (name := IAE) [] ⟨0, 10, 13, 13⟩ [] htab (fun z hz => nomatch hz) (by decide) (by decide) (hTB _ k_230) (by decide +kernel) (fun q9 H locs hP hS => ?_)
  refine W.widen (k := 1) (n := 6) (Nat.le_refl _) (Nat.le_refl _) ?_
  refine lv_astore (lv' := [(4, .ref q9), (0, .ref (g 9)), (1, .int (x)), (2, .int (y)), (3, .ref qo)]) hx hb d_Law_remove_13 hl (by decide) rfl (fun ls hl => ?_)
  refine lv_iconst (v := nI 1) hx hb d_Law_remove_15 (by decide +kernel) ?_
  refine W.widen (k := 1) (n := 6) (Nat.le_of_ble_eq_true rfl) (Nat.le_of_ble_eq_true rfl) ?_
  have hP9 : va_P D cl5 (wX g k L u f0 tl tp qo fo) H := hP
  have hD9 : va_D A (wX g k L u f0 tl tp qo fo) := hD
  exact W.iret (v := nI 1) hx hb hr (fun tt9 ht9 hW9 => ⟨⟨_, (), rfl, rfl, ⟨by rw [ht9]; exact hP9, hD9⟩⟩, hS.F ht9⟩) hS.2.2 d_Law_remove_16
set_option maxHeartbeats 4000000 in
set_option maxRecDepth 100000 in
theorem h_remove_y (l : Launch) (htr : l.stackTraces = false) (D : va_G) (g : Nat → Nat) (k : Nat → ClassId) (L : Nat) (hL0 : 96 ≤ L) (hL : L ≤ 768) (u : DSt) (f0 : Nat → Int32) (tl : Nat) (tp : Nat → Int32) (qo : Nat) (fo : Nat → Int64) (d : Nat) (y : Int32) (hd0 : d < 64) (hbad : y < nI 1 ∨ nI 65535 < y) : MuH l y_Law_remove w_Law_remove ({ frames := 9, cells := 1, slots := 6, locals := 224 }) [.ref (g 9), .int (nI d), .int (y), .ref qo] D cl5 (tyC k) (wX g k L u f0 tl tp qo fo) (wX g k L u f0 tl tp qo fo) (nI 1) := by
  intro sz
  refine xx_ofWH (cc := b_Law_remove) (maxL := 5) (ret := (some .int)) (by decide) rfl ?_
  intro p9 e9 s m args9 below9 meth9 c9 s₁ B hml hv
  obtain ⟨rfl, ⟨hsz, hP, hK, hD0⟩, hX⟩ := hv
  have hx := B.exec
  have hb := B.bytes
  have hr := B.returns
  have hts := atoms_spec (ws := w_Law_remove) B.pre
  have hTB : ∀ w ∈ lw_tb, w.before _ s = true := fun w h => hts w (List.mem_cons_of_mem _ h)
  have hown : s.vm.findClass R_Law = some m.cls := findClass_of_methodNamed B.named
  have hlocks := B.notSynchronized
  have htab := vx_table (x := y_Law_remove) B (hts _ List.mem_cons_self)
  subst hsz
  have hD := hD0.self (sz := s.heap.size)
  generalize hAe : va_A (wX g k L u f0 tl tp qo fo) s.heap.size = A at hD ⊢
  have hA : ∀ q : Nat, s.heap.size ≤ q → A q := fun q h => by rw [← hAe]; exact Or.inr h
  have hS : va_S A s.heap s.heap [] := va_S.rf
  have hl := lv_entry ([.ref (g 9), .int (nI d), .int (y), .ref qo]) (n := 5) (Nat.le_of_ble_eq_true rfl)
  rw [lg_entry_eq]
  generalize (lg_sl ([.ref (g 9), .int (nI d), .int (y), .ref qo]) ++ List.replicate (5 - (lg_sl ([.ref (g 9), .int (nI d), .int (y), .ref qo])).length) Slot.unset).toArray = ls at hl ⊢
  have hl : lv_has ls 5 [(0, .ref (g 9)), (1, .int (nI d)), (2, .int (y)), (3, .ref qo)] := hl
  refine lv_aload_n hx hb d_Law_remove_0 rfl (lv_at hl 3 rfl) ?_
  refine lv_iconst (v := nI 0) hx hb d_Law_remove_1 (by decide +kernel) ?_
  refine lv_aload_n hx hb d_Law_remove_2 rfl (lv_at hl 0 rfl) ?_
  refine lv_iload_n hx hb d_Law_remove_3 rfl (lv_at hl 1 rfl) ?_
  refine lv_iload_n hx hb d_Law_remove_4 rfl (lv_at hl 2 rfl) ?_
  refine gz_thVi (As := [.int (nI d), .int (y)]) (rest := [.int (nI 0), .ref qo]) (wc := (wT g k L u f0 tl tp)) ⟨hx, hb, hml, hown, hTB⟩ (c_Tree_remove_y l htr D g k L hL0 hL u f0 tl tp d y hd0 hbad) (cwV 2 hTB (gd_V k_543 k_544 k_545 k_51 k_546) rfl rfl rfl (by decide +kernel) ⟨Nat.le_of_ble_eq_true rfl, Nat.le_of_ble_eq_true rfl⟩) hX hK hP [0, 1, 2, 3, 4, 5, 6, 7, 8, 9, 10] rfl 0 rfl rfl rfl hl.1 rfl (Nat.le_of_ble_eq_true rfl) d_Law_remove_5 ⟨Nat.le_of_ble_eq_true rfl, Nat.le_of_ble_eq_true rfl⟩ hS (name := IAE) [] ⟨0, 10, 13, 13⟩ [] htab (fun z hz => nomatch hz) (by decide) (by decide) (hTB _ k_230) (by decide +kernel) (fun q9 H locs hP hS => ?_)
  refine W.widen (k := 1) (n := 6) (Nat.le_refl _) (Nat.le_refl _) ?_
  refine lv_astore (lv' := [(4, .ref q9), (0, .ref (g 9)), (1, .int (nI d)), (2, .int (y)), (3, .ref qo)]) hx hb d_Law_remove_13 hl (by decide) rfl (fun ls hl => ?_)
  refine lv_iconst (v := nI 1) hx hb d_Law_remove_15 (by decide +kernel) ?_
  refine W.widen (k := 1) (n := 6) (Nat.le_of_ble_eq_true rfl) (Nat.le_of_ble_eq_true rfl) ?_
  have hP9 : va_P D cl5 (wX g k L u f0 tl tp qo fo) H := hP
  have hD9 : va_D A (wX g k L u f0 tl tp qo fo) := hD
  exact W.iret (v := nI 1) hx hb hr (fun tt9 ht9 hW9 => ⟨⟨_, (), rfl, rfl, ⟨by rw [ht9]; exact hP9, hD9⟩⟩, hS.F ht9⟩) hS.2.2 d_Law_remove_16
set_option maxHeartbeats 4000000 in
set_option maxRecDepth 100000 in
theorem h_write_x (l : Launch) (htr : l.stackTraces = false) (D : va_G) (g : Nat → Nat) (k : Nat → ClassId) (L : Nat) (hL0 : 96 ≤ L) (hL : L ≤ 768) (u : DSt) (f0 : Nat → Int32) (tl : Nat) (tp : Nat → Int32) (qo : Nat) (fo : Nat → Int64) (x y : Int32) (hbad : x < 0 ∨ nI 64 ≤ x) : MuH l y_Law_write w_Law_write ({ frames := 9, cells := 1, slots := 6, locals := 206 }) [.ref (g 9), .int (x), .int (y), .ref qo] D cl5 (tyC k) (wX g k L u f0 tl tp qo fo) (wX g k L u f0 tl tp qo fo) (nI 1) := by
  intro sz
  refine xx_ofWH (cc := b_Law_write) (maxL := 5) (ret := (some .int)) (by decide) rfl ?_
  intro p9 e9 s m args9 below9 meth9 c9 s₁ B hml hv
  obtain ⟨rfl, ⟨hsz, hP, hK, hD0⟩, hX⟩ := hv
  have hx := B.exec
  have hb := B.bytes
  have hr := B.returns
  have hts := atoms_spec (ws := w_Law_write) B.pre
  have hTB : ∀ w ∈ lw_tb, w.before _ s = true := fun w h => hts w (List.mem_cons_of_mem _ h)
  have hown : s.vm.findClass R_Law = some m.cls := findClass_of_methodNamed B.named
  have hlocks := B.notSynchronized
  have htab := vx_table (x := y_Law_write) B (hts _ List.mem_cons_self)
  subst hsz
  have hD := hD0.self (sz := s.heap.size)
  generalize hAe : va_A (wX g k L u f0 tl tp qo fo) s.heap.size = A at hD ⊢
  have hA : ∀ q : Nat, s.heap.size ≤ q → A q := fun q h => by rw [← hAe]; exact Or.inr h
  have hS : va_S A s.heap s.heap [] := va_S.rf
  have hl := lv_entry ([.ref (g 9), .int (x), .int (y), .ref qo]) (n := 5) (Nat.le_of_ble_eq_true rfl)
  rw [lg_entry_eq]
  generalize (lg_sl ([.ref (g 9), .int (x), .int (y), .ref qo]) ++ List.replicate (5 - (lg_sl ([.ref (g 9), .int (x), .int (y), .ref qo])).length) Slot.unset).toArray = ls at hl ⊢
  have hl : lv_has ls 5 [(0, .ref (g 9)), (1, .int (x)), (2, .int (y)), (3, .ref qo)] := hl
  refine lv_aload_n hx hb d_Law_write_0 rfl (lv_at hl 3 rfl) ?_
  refine lv_iconst (v := nI 0) hx hb d_Law_write_1 (by decide +kernel) ?_
  refine lv_aload_n hx hb d_Law_write_2 rfl (lv_at hl 0 rfl) ?_
  refine lv_iload_n hx hb d_Law_write_3 rfl (lv_at hl 1 rfl) ?_
  refine lv_iload_n hx hb d_Law_write_4 rfl (lv_at hl 2 rfl) ?_
  refine gz_thVi (As := [.int (x), .int (y)]) (rest := [.int (nI 0), .ref qo]) (wc := (wT g k L u f0 tl tp)) ⟨hx, hb, hml, hown, hTB⟩ (c_Tree_write_x l htr D g k L hL0 hL u f0 tl tp x y hbad) (cwV 2 hTB (gd_V k_458 k_459 k_460 k_51 k_461) rfl rfl rfl (by decide +kernel) ⟨Nat.le_of_ble_eq_true rfl, Nat.le_of_ble_eq_true rfl⟩) hX hK hP [0, 1, 2, 3, 4, 5, 6, 7, 8, 9, 10] rfl 0 rfl rfl rfl hl.1 rfl (Nat.le_of_ble_eq_true rfl) d_Law_write_5 ⟨Nat.le_of_ble_eq_true rfl, Nat.le_of_ble_eq_true rfl⟩ hS (name := IAE) [] ⟨0, 10, 13, 13⟩ [] htab (fun z hz => nomatch hz) (by decide) (by decide) (hTB _ k_230) (by decide +kernel) (fun q9 H locs hP hS => ?_)
  refine W.widen (k := 1) (n := 6) (Nat.le_refl _) (Nat.le_refl _) ?_
  refine lv_astore (lv' := [(4, .ref q9), (0, .ref (g 9)), (1, .int (x)), (2, .int (y)), (3, .ref qo)]) hx hb d_Law_write_13 hl (by decide) rfl (fun ls hl => ?_)
  refine lv_iconst (v := nI 1) hx hb d_Law_write_15 (by decide +kernel) ?_
  refine W.widen (k := 1) (n := 6) (Nat.le_of_ble_eq_true rfl) (Nat.le_of_ble_eq_true rfl) ?_
  have hP9 : va_P D cl5 (wX g k L u f0 tl tp qo fo) H := hP
  have hD9 : va_D A (wX g k L u f0 tl tp qo fo) := hD
  exact W.iret (v := nI 1) hx hb hr (fun tt9 ht9 hW9 => ⟨⟨_, (), rfl, rfl, ⟨by rw [ht9]; exact hP9, hD9⟩⟩, hS.F ht9⟩) hS.2.2 d_Law_write_16
set_option maxHeartbeats 4000000 in
set_option maxRecDepth 100000 in
theorem h_cut_x (l : Launch) (htr : l.stackTraces = false) (D : va_G) (g : Nat → Nat) (k : Nat → ClassId) (L : Nat) (hL0 : 96 ≤ L) (hL : L ≤ 768) (u : DSt) (f0 : Nat → Int32) (tl : Nat) (tp : Nat → Int32) (qo : Nat) (fo : Nat → Int64) (x y : Int32) (hbad : x < 0 ∨ nI 64 ≤ x) : MuH l y_Law_cut w_Law_cut ({ frames := 9, cells := 1, slots := 6, locals := 202 }) [.ref (g 9), .int (x), .int (y), .ref qo] D cl5 (tyC k) (wX g k L u f0 tl tp qo fo) (wX g k L u f0 tl tp qo fo) (nI 1) := by
  intro sz
  refine xx_ofWH (cc := b_Law_cut) (maxL := 5) (ret := (some .int)) (by decide) rfl ?_
  intro p9 e9 s m args9 below9 meth9 c9 s₁ B hml hv
  obtain ⟨rfl, ⟨hsz, hP, hK, hD0⟩, hX⟩ := hv
  have hx := B.exec
  have hb := B.bytes
  have hr := B.returns
  have hts := atoms_spec (ws := w_Law_cut) B.pre
  have hTB : ∀ w ∈ lw_tb, w.before _ s = true := fun w h => hts w (List.mem_cons_of_mem _ h)
  have hown : s.vm.findClass R_Law = some m.cls := findClass_of_methodNamed B.named
  have hlocks := B.notSynchronized
  have htab := vx_table (x := y_Law_cut) B (hts _ List.mem_cons_self)
  subst hsz
  have hD := hD0.self (sz := s.heap.size)
  generalize hAe : va_A (wX g k L u f0 tl tp qo fo) s.heap.size = A at hD ⊢
  have hA : ∀ q : Nat, s.heap.size ≤ q → A q := fun q h => by rw [← hAe]; exact Or.inr h
  have hS : va_S A s.heap s.heap [] := va_S.rf
  have hl := lv_entry ([.ref (g 9), .int (x), .int (y), .ref qo]) (n := 5) (Nat.le_of_ble_eq_true rfl)
  rw [lg_entry_eq]
  generalize (lg_sl ([.ref (g 9), .int (x), .int (y), .ref qo]) ++ List.replicate (5 - (lg_sl ([.ref (g 9), .int (x), .int (y), .ref qo])).length) Slot.unset).toArray = ls at hl ⊢
  have hl : lv_has ls 5 [(0, .ref (g 9)), (1, .int (x)), (2, .int (y)), (3, .ref qo)] := hl
  refine lv_aload_n hx hb d_Law_cut_0 rfl (lv_at hl 3 rfl) ?_
  refine lv_iconst (v := nI 0) hx hb d_Law_cut_1 (by decide +kernel) ?_
  refine lv_aload_n hx hb d_Law_cut_2 rfl (lv_at hl 0 rfl) ?_
  refine lv_iload_n hx hb d_Law_cut_3 rfl (lv_at hl 1 rfl) ?_
  refine lv_iload_n hx hb d_Law_cut_4 rfl (lv_at hl 2 rfl) ?_
  refine gz_thVi (As := [.int (x), .int (y)]) (rest := [.int (nI 0), .ref qo]) (wc := (wT g k L u f0 tl tp)) ⟨hx, hb, hml, hown, hTB⟩ (c_Tree_cut_x l htr D g k L hL0 hL u f0 tl tp x y hbad) (cwV 2 hTB (gd_V k_472 k_473 k_474 k_51 k_475) rfl rfl rfl (by decide +kernel) ⟨Nat.le_of_ble_eq_true rfl, Nat.le_of_ble_eq_true rfl⟩) hX hK hP [0, 1, 2, 3, 4, 5, 6, 7, 8, 9, 10] rfl 0 rfl rfl rfl hl.1 rfl (Nat.le_of_ble_eq_true rfl) d_Law_cut_5 ⟨Nat.le_of_ble_eq_true rfl, Nat.le_of_ble_eq_true rfl⟩ hS (name := IAE) [] ⟨0, 10, 13, 13⟩ [] htab (fun z hz => nomatch hz) (by decide) (by decide) (hTB _ k_230) (by decide +kernel) (fun q9 H locs hP hS => ?_)
  refine W.widen (k := 1) (n := 6) (Nat.le_refl _) (Nat.le_refl _) ?_
  refine lv_astore (lv' := [(4, .ref q9), (0, .ref (g 9)), (1, .int (x)), (2, .int (y)), (3, .ref qo)]) hx hb d_Law_cut_13 hl (by decide) rfl (fun ls hl => ?_)
  refine lv_iconst (v := nI 1) hx hb d_Law_cut_15 (by decide +kernel) ?_
  refine W.widen (k := 1) (n := 6) (Nat.le_of_ble_eq_true rfl) (Nat.le_of_ble_eq_true rfl) ?_
  have hP9 : va_P D cl5 (wX g k L u f0 tl tp qo fo) H := hP
  have hD9 : va_D A (wX g k L u f0 tl tp qo fo) := hD
  exact W.iret (v := nI 1) hx hb hr (fun tt9 ht9 hW9 => ⟨⟨_, (), rfl, rfl, ⟨by rw [ht9]; exact hP9, hD9⟩⟩, hS.F ht9⟩) hS.2.2 d_Law_cut_16
set_option maxHeartbeats 4000000 in
set_option maxRecDepth 100000 in
theorem h_read_x (l : Launch) (htr : l.stackTraces = false) (D : va_G) (g : Nat → Nat) (k : Nat → ClassId) (L : Nat) (hL0 : 96 ≤ L) (hL : L ≤ 768) (u : DSt) (f0 : Nat → Int32) (tl : Nat) (tp : Nat → Int32) (qo : Nat) (fo : Nat → Int64) (x y : Int32) (hbad : x < 0 ∨ nI 64 ≤ x) : MuH l y_Law_read w_Law_read ({ frames := 9, cells := 1, slots := 6, locals := 155 }) [.ref (g 9), .int (x), .int (y), .ref qo] D cl5 (tyC k) (wX g k L u f0 tl tp qo fo) (wX g k L u f0 tl tp qo fo) (nI 1) := by
  intro sz
  refine xx_ofWH (cc := b_Law_read) (maxL := 5) (ret := (some .int)) (by decide) rfl ?_
  intro p9 e9 s m args9 below9 meth9 c9 s₁ B hml hv
  obtain ⟨rfl, ⟨hsz, hP, hK, hD0⟩, hX⟩ := hv
  have hx := B.exec
  have hb := B.bytes
  have hr := B.returns
  have hts := atoms_spec (ws := w_Law_read) B.pre
  have hTB : ∀ w ∈ lw_tb, w.before _ s = true := fun w h => hts w (List.mem_cons_of_mem _ h)
  have hown : s.vm.findClass R_Law = some m.cls := findClass_of_methodNamed B.named
  have hlocks := B.notSynchronized
  have htab := vx_table (x := y_Law_read) B (hts _ List.mem_cons_self)
  subst hsz
  have hD := hD0.self (sz := s.heap.size)
  generalize hAe : va_A (wX g k L u f0 tl tp qo fo) s.heap.size = A at hD ⊢
  have hA : ∀ q : Nat, s.heap.size ≤ q → A q := fun q h => by rw [← hAe]; exact Or.inr h
  have hS : va_S A s.heap s.heap [] := va_S.rf
  have hl := lv_entry ([.ref (g 9), .int (x), .int (y), .ref qo]) (n := 5) (Nat.le_of_ble_eq_true rfl)
  rw [lg_entry_eq]
  generalize (lg_sl ([.ref (g 9), .int (x), .int (y), .ref qo]) ++ List.replicate (5 - (lg_sl ([.ref (g 9), .int (x), .int (y), .ref qo])).length) Slot.unset).toArray = ls at hl ⊢
  have hl : lv_has ls 5 [(0, .ref (g 9)), (1, .int (x)), (2, .int (y)), (3, .ref qo)] := hl
  refine lv_aload_n hx hb d_Law_read_0 rfl (lv_at hl 3 rfl) ?_
  refine lv_iconst (v := nI 0) hx hb d_Law_read_1 (by decide +kernel) ?_
  refine lv_aload_n hx hb d_Law_read_2 rfl (lv_at hl 0 rfl) ?_
  refine lv_iload_n hx hb d_Law_read_3 rfl (lv_at hl 1 rfl) ?_
  refine lv_iload_n hx hb d_Law_read_4 rfl (lv_at hl 2 rfl) ?_
  refine gz_thVl (As := [.int (x), .int (y)]) (rest := [.int (nI 0), .ref qo]) (wc := (wT g k L u f0 tl tp)) ⟨hx, hb, hml, hown, hTB⟩ (c_Tree_read_x l htr D g k L hL0 hL u f0 tl tp x y hbad) (cwV 2 hTB (gd_V k_480 k_481 k_482 k_51 k_483) rfl rfl rfl (by decide +kernel) ⟨Nat.le_of_ble_eq_true rfl, Nat.le_of_ble_eq_true rfl⟩) hX hK hP [0, 1, 2, 3, 4, 5, 6, 7, 8, 9, 10] rfl 0 rfl rfl rfl hl.1 rfl (Nat.le_of_ble_eq_true rfl) d_Law_read_5 ⟨Nat.le_of_ble_eq_true rfl, Nat.le_of_ble_eq_true rfl⟩ hS (name := IAE) [] ⟨0, 9, 12, 13⟩ [⟨0, 9, 16, 35⟩] htab (fun z hz => nomatch hz) (by decide) (by decide) (hTB _ k_230) (by decide +kernel) (fun q9 H locs hP hS => ?_)
  refine W.widen (k := 1) (n := 6) (Nat.le_refl _) (Nat.le_refl _) ?_
  refine lv_astore (lv' := [(4, .ref q9), (0, .ref (g 9)), (1, .int (x)), (2, .int (y)), (3, .ref qo)]) hx hb d_Law_read_12 hl (by decide) rfl (fun ls hl => ?_)
  refine lv_iconst (v := nI 1) hx hb d_Law_read_14 (by decide +kernel) ?_
  refine W.widen (k := 1) (n := 6) (Nat.le_of_ble_eq_true rfl) (Nat.le_of_ble_eq_true rfl) ?_
  have hP9 : va_P D cl5 (wX g k L u f0 tl tp qo fo) H := hP
  have hD9 : va_D A (wX g k L u f0 tl tp qo fo) := hD
  exact W.iret (v := nI 1) hx hb hr (fun tt9 ht9 hW9 => ⟨⟨_, (), rfl, rfl, ⟨by rw [ht9]; exact hP9, hD9⟩⟩, hS.F ht9⟩) hS.2.2 d_Law_read_15
set_option maxHeartbeats 4000000 in
set_option maxRecDepth 100000 in
theorem h_node_x (l : Launch) (htr : l.stackTraces = false) (D : va_G) (g : Nat → Nat) (k : Nat → ClassId) (L : Nat) (hL0 : 96 ≤ L) (hL : L ≤ 768) (u : DSt) (f0 : Nat → Int32) (tl : Nat) (tp : Nat → Int32) (qo : Nat) (fo : Nat → Int64) (x y : Int32) (hbad : x < 0 ∨ nI 64 ≤ x) : MuH l y_Law_node w_Law_node ({ frames := 9, cells := 1, slots := 6, locals := 153 }) [.ref (g 9), .int (x), .int (y), .ref qo] D cl5 (tyC k) (wX g k L u f0 tl tp qo fo) (wX g k L u f0 tl tp qo fo) (nI 1) := by
  intro sz
  refine xx_ofWH (cc := b_Law_node) (maxL := 5) (ret := (some .int)) (by decide) rfl ?_
  intro p9 e9 s m args9 below9 meth9 c9 s₁ B hml hv
  obtain ⟨rfl, ⟨hsz, hP, hK, hD0⟩, hX⟩ := hv
  have hx := B.exec
  have hb := B.bytes
  have hr := B.returns
  have hts := atoms_spec (ws := w_Law_node) B.pre
  have hTB : ∀ w ∈ lw_tb, w.before _ s = true := fun w h => hts w (List.mem_cons_of_mem _ h)
  have hown : s.vm.findClass R_Law = some m.cls := findClass_of_methodNamed B.named
  have hlocks := B.notSynchronized
  have htab := vx_table (x := y_Law_node) B (hts _ List.mem_cons_self)
  subst hsz
  have hD := hD0.self (sz := s.heap.size)
  generalize hAe : va_A (wX g k L u f0 tl tp qo fo) s.heap.size = A at hD ⊢
  have hA : ∀ q : Nat, s.heap.size ≤ q → A q := fun q h => by rw [← hAe]; exact Or.inr h
  have hS : va_S A s.heap s.heap [] := va_S.rf
  have hl := lv_entry ([.ref (g 9), .int (x), .int (y), .ref qo]) (n := 5) (Nat.le_of_ble_eq_true rfl)
  rw [lg_entry_eq]
  generalize (lg_sl ([.ref (g 9), .int (x), .int (y), .ref qo]) ++ List.replicate (5 - (lg_sl ([.ref (g 9), .int (x), .int (y), .ref qo])).length) Slot.unset).toArray = ls at hl ⊢
  have hl : lv_has ls 5 [(0, .ref (g 9)), (1, .int (x)), (2, .int (y)), (3, .ref qo)] := hl
  refine lv_aload_n hx hb d_Law_node_0 rfl (lv_at hl 3 rfl) ?_
  refine lv_iconst (v := nI 0) hx hb d_Law_node_1 (by decide +kernel) ?_
  refine lv_aload_n hx hb d_Law_node_2 rfl (lv_at hl 0 rfl) ?_
  refine lv_iload_n hx hb d_Law_node_3 rfl (lv_at hl 1 rfl) ?_
  refine lv_iload_n hx hb d_Law_node_4 rfl (lv_at hl 2 rfl) ?_
  refine gz_thVi (As := [.int (x), .int (y)]) (rest := [.int (nI 0), .ref qo]) (wc := (wT g k L u f0 tl tp)) ⟨hx, hb, hml, hown, hTB⟩ (c_Tree_node_x l htr D g k L hL0 hL u f0 tl tp x y hbad) (cwV 2 hTB (gd_V k_550 k_551 k_552 k_51 k_553) rfl rfl rfl (by decide +kernel) ⟨Nat.le_of_ble_eq_true rfl, Nat.le_of_ble_eq_true rfl⟩) hX hK hP [0, 1, 2, 3, 4, 5, 6, 7, 8, 9, 10] rfl 0 rfl rfl rfl hl.1 rfl (Nat.le_of_ble_eq_true rfl) d_Law_node_5 ⟨Nat.le_of_ble_eq_true rfl, Nat.le_of_ble_eq_true rfl⟩ hS (name := IAE) [] ⟨0, 10, 13, 13⟩ [⟨0, 10, 17, 35⟩] htab (fun z hz => nomatch hz) (by decide) (by decide) (hTB _ k_230) (by decide +kernel) (fun q9 H locs hP hS => ?_)
  refine W.widen (k := 1) (n := 6) (Nat.le_refl _) (Nat.le_refl _) ?_
  refine lv_astore (lv' := [(4, .ref q9), (0, .ref (g 9)), (1, .int (x)), (2, .int (y)), (3, .ref qo)]) hx hb d_Law_node_13 hl (by decide) rfl (fun ls hl => ?_)
  refine lv_iconst (v := nI 1) hx hb d_Law_node_15 (by decide +kernel) ?_
  refine W.widen (k := 1) (n := 6) (Nat.le_of_ble_eq_true rfl) (Nat.le_of_ble_eq_true rfl) ?_
  have hP9 : va_P D cl5 (wX g k L u f0 tl tp qo fo) H := hP
  have hD9 : va_D A (wX g k L u f0 tl tp qo fo) := hD
  exact W.iret (v := nI 1) hx hb hr (fun tt9 ht9 hW9 => ⟨⟨_, (), rfl, rfl, ⟨by rw [ht9]; exact hP9, hD9⟩⟩, hS.F ht9⟩) hS.2.2 d_Law_node_16
set_option maxHeartbeats 4000000 in
set_option maxRecDepth 100000 in
theorem h_read_y (l : Launch) (htr : l.stackTraces = false) (D : va_G) (g : Nat → Nat) (k : Nat → ClassId) (L : Nat) (hL0 : 96 ≤ L) (hL : L ≤ 768) (u : DSt) (f0 : Nat → Int32) (tl : Nat) (tp : Nat → Int32) (qo : Nat) (fo : Nat → Int64) (i : Nat) (y : Int32) (hi0 : i < 64) (hbad : y < 0 ∨ nI (iS L (dNow u) i) ≤ y) : MuH l y_Law_read w_Law_read ({ frames := 9, cells := 1, slots := 6, locals := 155 }) [.ref (g 9), .int (nI i), .int (y), .ref qo] D cl5 (tyC k) (wX g k L u f0 tl tp qo fo) (wX g k L u f0 tl tp qo fo) (nI 2) := by
  intro sz
  refine xx_ofWH (cc := b_Law_read) (maxL := 5) (ret := (some .int)) (by decide) rfl ?_
  intro p9 e9 s m args9 below9 meth9 c9 s₁ B hml hv
  obtain ⟨rfl, ⟨hsz, hP, hK, hD0⟩, hX⟩ := hv
  have hx := B.exec
  have hb := B.bytes
  have hr := B.returns
  have hts := atoms_spec (ws := w_Law_read) B.pre
  have hTB : ∀ w ∈ lw_tb, w.before _ s = true := fun w h => hts w (List.mem_cons_of_mem _ h)
  have hown : s.vm.findClass R_Law = some m.cls := findClass_of_methodNamed B.named
  have hlocks := B.notSynchronized
  have htab := vx_table (x := y_Law_read) B (hts _ List.mem_cons_self)
  subst hsz
  have hD := hD0.self (sz := s.heap.size)
  generalize hAe : va_A (wX g k L u f0 tl tp qo fo) s.heap.size = A at hD ⊢
  have hA : ∀ q : Nat, s.heap.size ≤ q → A q := fun q h => by rw [← hAe]; exact Or.inr h
  have hS : va_S A s.heap s.heap [] := va_S.rf
  have hl := lv_entry ([.ref (g 9), .int (nI i), .int (y), .ref qo]) (n := 5) (Nat.le_of_ble_eq_true rfl)
  rw [lg_entry_eq]
  generalize (lg_sl ([.ref (g 9), .int (nI i), .int (y), .ref qo]) ++ List.replicate (5 - (lg_sl ([.ref (g 9), .int (nI i), .int (y), .ref qo])).length) Slot.unset).toArray = ls at hl ⊢
  have hl : lv_has ls 5 [(0, .ref (g 9)), (1, .int (nI i)), (2, .int (y)), (3, .ref qo)] := hl
  refine lv_aload_n hx hb d_Law_read_0 rfl (lv_at hl 3 rfl) ?_
  refine lv_iconst (v := nI 0) hx hb d_Law_read_1 (by decide +kernel) ?_
  refine lv_aload_n hx hb d_Law_read_2 rfl (lv_at hl 0 rfl) ?_
  refine lv_iload_n hx hb d_Law_read_3 rfl (lv_at hl 1 rfl) ?_
  refine lv_iload_n hx hb d_Law_read_4 rfl (lv_at hl 2 rfl) ?_
  refine gz_thVl (As := [.int (nI i), .int (y)]) (rest := [.int (nI 0), .ref qo]) (wc := (wT g k L u f0 tl tp)) ⟨hx, hb, hml, hown, hTB⟩ (c_Tree_read_y l htr D g k L hL0 hL u f0 tl tp i y hi0 hbad) (cwV 2 hTB (gd_V k_480 k_481 k_482 k_51 k_483) rfl rfl rfl (by decide +kernel) ⟨Nat.le_of_ble_eq_true rfl, Nat.le_of_ble_eq_true rfl⟩) hX hK hP [0, 1, 2, 3, 4, 5, 6, 7, 8, 9, 10] rfl 0 rfl rfl rfl hl.1 rfl (Nat.le_of_ble_eq_true rfl) d_Law_read_5 ⟨Nat.le_of_ble_eq_true rfl, Nat.le_of_ble_eq_true rfl⟩ hS (name := NSE) [⟨0, 9, 12, 13⟩] ⟨0, 9, 16, 35⟩ [] htab (fun z hz => by
      rw [List.mem_singleton] at hz
      subst hz
      exact Or.inr ⟨by decide, _, hTB _ k_230, hX.2.2.2.2.1⟩) (by decide) (by decide) (hTB _ k_479) (by decide +kernel) (fun q9 H locs hP hS => ?_)
  refine W.widen (k := 1) (n := 6) (Nat.le_refl _) (Nat.le_refl _) ?_
  refine lv_astore (lv' := [(4, .ref q9), (0, .ref (g 9)), (1, .int (nI i)), (2, .int (y)), (3, .ref qo)]) hx hb d_Law_read_16 hl (by decide) rfl (fun ls hl => ?_)
  refine lv_iconst (v := nI 2) hx hb d_Law_read_18 (by decide +kernel) ?_
  refine W.widen (k := 1) (n := 6) (Nat.le_of_ble_eq_true rfl) (Nat.le_of_ble_eq_true rfl) ?_
  have hP9 : va_P D cl5 (wX g k L u f0 tl tp qo fo) H := hP
  have hD9 : va_D A (wX g k L u f0 tl tp qo fo) := hD
  exact W.iret (v := nI 2) hx hb hr (fun tt9 ht9 hW9 => ⟨⟨_, (), rfl, rfl, ⟨by rw [ht9]; exact hP9, hD9⟩⟩, hS.F ht9⟩) hS.2.2 d_Law_read_19
set_option maxHeartbeats 4000000 in
set_option maxRecDepth 100000 in
theorem h_node_y (l : Launch) (htr : l.stackTraces = false) (D : va_G) (g : Nat → Nat) (k : Nat → ClassId) (L : Nat) (hL0 : 96 ≤ L) (hL : L ≤ 768) (u : DSt) (f0 : Nat → Int32) (tl : Nat) (tp : Nat → Int32) (qo : Nat) (fo : Nat → Int64) (i : Nat) (y : Int32) (hi0 : i < 64) (hbad : y < 0 ∨ nI (3 + 2 * iX L (dNow u) i) ≤ y) : MuH l y_Law_node w_Law_node ({ frames := 9, cells := 1, slots := 6, locals := 153 }) [.ref (g 9), .int (nI i), .int (y), .ref qo] D cl5 (tyC k) (wX g k L u f0 tl tp qo fo) (wX g k L u f0 tl tp qo fo) (nI 2) := by
  intro sz
  refine xx_ofWH (cc := b_Law_node) (maxL := 5) (ret := (some .int)) (by decide) rfl ?_
  intro p9 e9 s m args9 below9 meth9 c9 s₁ B hml hv
  obtain ⟨rfl, ⟨hsz, hP, hK, hD0⟩, hX⟩ := hv
  have hx := B.exec
  have hb := B.bytes
  have hr := B.returns
  have hts := atoms_spec (ws := w_Law_node) B.pre
  have hTB : ∀ w ∈ lw_tb, w.before _ s = true := fun w h => hts w (List.mem_cons_of_mem _ h)
  have hown : s.vm.findClass R_Law = some m.cls := findClass_of_methodNamed B.named
  have hlocks := B.notSynchronized
  have htab := vx_table (x := y_Law_node) B (hts _ List.mem_cons_self)
  subst hsz
  have hD := hD0.self (sz := s.heap.size)
  generalize hAe : va_A (wX g k L u f0 tl tp qo fo) s.heap.size = A at hD ⊢
  have hA : ∀ q : Nat, s.heap.size ≤ q → A q := fun q h => by rw [← hAe]; exact Or.inr h
  have hS : va_S A s.heap s.heap [] := va_S.rf
  have hl := lv_entry ([.ref (g 9), .int (nI i), .int (y), .ref qo]) (n := 5) (Nat.le_of_ble_eq_true rfl)
  rw [lg_entry_eq]
  generalize (lg_sl ([.ref (g 9), .int (nI i), .int (y), .ref qo]) ++ List.replicate (5 - (lg_sl ([.ref (g 9), .int (nI i), .int (y), .ref qo])).length) Slot.unset).toArray = ls at hl ⊢
  have hl : lv_has ls 5 [(0, .ref (g 9)), (1, .int (nI i)), (2, .int (y)), (3, .ref qo)] := hl
  refine lv_aload_n hx hb d_Law_node_0 rfl (lv_at hl 3 rfl) ?_
  refine lv_iconst (v := nI 0) hx hb d_Law_node_1 (by decide +kernel) ?_
  refine lv_aload_n hx hb d_Law_node_2 rfl (lv_at hl 0 rfl) ?_
  refine lv_iload_n hx hb d_Law_node_3 rfl (lv_at hl 1 rfl) ?_
  refine lv_iload_n hx hb d_Law_node_4 rfl (lv_at hl 2 rfl) ?_
  refine gz_thVi (As := [.int (nI i), .int (y)]) (rest := [.int (nI 0), .ref qo]) (wc := (wT g k L u f0 tl tp)) ⟨hx, hb, hml, hown, hTB⟩ (c_Tree_node_y l htr D g k L hL0 hL u f0 tl tp i y hi0 hbad) (cwV 2 hTB (gd_V k_550 k_551 k_552 k_51 k_553) rfl rfl rfl (by decide +kernel) ⟨Nat.le_of_ble_eq_true rfl, Nat.le_of_ble_eq_true rfl⟩) hX hK hP [0, 1, 2, 3, 4, 5, 6, 7, 8, 9, 10] rfl 0 rfl rfl rfl hl.1 rfl (Nat.le_of_ble_eq_true rfl) d_Law_node_5 ⟨Nat.le_of_ble_eq_true rfl, Nat.le_of_ble_eq_true rfl⟩ hS (name := NSE) [⟨0, 10, 13, 13⟩] ⟨0, 10, 17, 35⟩ [] htab (fun z hz => by
      rw [List.mem_singleton] at hz
      subst hz
      exact Or.inr ⟨by decide, _, hTB _ k_230, hX.2.2.2.2.1⟩) (by decide) (by decide) (hTB _ k_479) (by decide +kernel) (fun q9 H locs hP hS => ?_)
  refine W.widen (k := 1) (n := 6) (Nat.le_refl _) (Nat.le_refl _) ?_
  refine lv_astore (lv' := [(4, .ref q9), (0, .ref (g 9)), (1, .int (nI i)), (2, .int (y)), (3, .ref qo)]) hx hb d_Law_node_17 hl (by decide) rfl (fun ls hl => ?_)
  refine lv_iconst (v := nI 2) hx hb d_Law_node_19 (by decide +kernel) ?_
  refine W.widen (k := 1) (n := 6) (Nat.le_of_ble_eq_true rfl) (Nat.le_of_ble_eq_true rfl) ?_
  have hP9 : va_P D cl5 (wX g k L u f0 tl tp qo fo) H := hP
  have hD9 : va_D A (wX g k L u f0 tl tp qo fo) := hD
  exact W.iret (v := nI 2) hx hb hr (fun tt9 ht9 hW9 => ⟨⟨_, (), rfl, rfl, ⟨by rw [ht9]; exact hP9, hD9⟩⟩, hS.F ht9⟩) hS.2.2 d_Law_node_20
set_option maxHeartbeats 4000000 in
set_option maxRecDepth 100000 in
theorem h_move_x (l : Launch) (htr : l.stackTraces = false) (D : va_G) (g : Nat → Nat) (k : Nat → ClassId) (L : Nat) (hL0 : 96 ≤ L) (hL : L ≤ 768) (u : DSt) (f0 : Nat → Int32) (tl : Nat) (tp : Nat → Int32) (qo : Nat) (fo : Nat → Int64) (x y x2 y2 : Int32) (hbad : x < 0 ∨ nI 64 ≤ x) : MuH l y_Law_move w_Law_move ({ frames := 9, cells := 1, slots := 6, locals := 232 }) [.ref (g 9), .int (x), .int (y), .int (x2), .int (y2), .ref qo] D cl5 (tyC k) (wX g k L u f0 tl tp qo fo) (wX g k L u f0 tl tp qo fo) (nI 1) := by
  intro sz
  refine xx_ofWH (cc := b_Law_move) (maxL := 7) (ret := (some .int)) (by decide) rfl ?_
  intro p9 e9 s m args9 below9 meth9 c9 s₁ B hml hv
  obtain ⟨rfl, ⟨hsz, hP, hK, hD0⟩, hX⟩ := hv
  have hx := B.exec
  have hb := B.bytes
  have hr := B.returns
  have hts := atoms_spec (ws := w_Law_move) B.pre
  have hTB : ∀ w ∈ lw_tb, w.before _ s = true := fun w h => hts w (List.mem_cons_of_mem _ h)
  have hown : s.vm.findClass R_Law = some m.cls := findClass_of_methodNamed B.named
  have hlocks := B.notSynchronized
  have htab := vx_table (x := y_Law_move) B (hts _ List.mem_cons_self)
  subst hsz
  have hD := hD0.self (sz := s.heap.size)
  generalize hAe : va_A (wX g k L u f0 tl tp qo fo) s.heap.size = A at hD ⊢
  have hA : ∀ q : Nat, s.heap.size ≤ q → A q := fun q h => by rw [← hAe]; exact Or.inr h
  have hS : va_S A s.heap s.heap [] := va_S.rf
  have hl := lv_entry ([.ref (g 9), .int (x), .int (y), .int (x2), .int (y2), .ref qo]) (n := 7) (Nat.le_of_ble_eq_true rfl)
  rw [lg_entry_eq]
  generalize (lg_sl ([.ref (g 9), .int (x), .int (y), .int (x2), .int (y2), .ref qo]) ++ List.replicate (7 - (lg_sl ([.ref (g 9), .int (x), .int (y), .int (x2), .int (y2), .ref qo])).length) Slot.unset).toArray = ls at hl ⊢
  have hl : lv_has ls 7 [(0, .ref (g 9)), (1, .int (x)), (2, .int (y)), (3, .int (x2)), (4, .int (y2)), (5, .ref qo)] := hl
  refine lv_aload hx hb d_Law_move_0 (lv_at hl 5 rfl) ?_
  refine lv_iconst (v := nI 0) hx hb d_Law_move_2 (by decide +kernel) ?_
  refine lv_aload_n hx hb d_Law_move_3 rfl (lv_at hl 0 rfl) ?_
  refine lv_iload_n hx hb d_Law_move_4 rfl (lv_at hl 1 rfl) ?_
  refine lv_iload_n hx hb d_Law_move_5 rfl (lv_at hl 2 rfl) ?_
  refine lv_iload_n hx hb d_Law_move_6 rfl (lv_at hl 3 rfl) ?_
  refine lv_iload hx hb d_Law_move_7 (lv_at hl 4 rfl) ?_
  refine gz_thVi (As := [.int (x), .int (y), .int (x2), .int (y2)]) (rest := [.int (nI 0), .ref qo]) (wc := (wT g k L u f0 tl tp)) ⟨hx, hb, hml, hown, hTB⟩ (c_Tree_move_x l htr D g k L hL0 hL u f0 tl tp x y x2 y2 hbad) (cwV 4 hTB (gd_V k_504 k_505 k_506 k_51 k_507) rfl rfl rfl (by decide +kernel) ⟨Nat.le_of_ble_eq_true rfl, Nat.le_of_ble_eq_true rfl⟩) hX hK hP [0, 1, 2, 3, 4, 5, 6, 7, 8, 9, 10] rfl 0 rfl rfl rfl hl.1 rfl (Nat.le_of_ble_eq_true rfl) d_Law_move_9 ⟨Nat.le_of_ble_eq_true rfl, Nat.le_of_ble_eq_true rfl⟩ hS (name := IAE) [] ⟨0, 14, 17, 13⟩ [] htab (fun z hz => nomatch hz) (by decide) (by decide) (hTB _ k_230) (by decide +kernel) (fun q9 H locs hP hS => ?_)
  refine W.widen (k := 1) (n := 6) (Nat.le_refl _) (Nat.le_refl _) ?_
  refine lv_astore (lv' := [(6, .ref q9), (0, .ref (g 9)), (1, .int (x)), (2, .int (y)), (3, .int (x2)), (4, .int (y2)), (5, .ref qo)]) hx hb d_Law_move_17 hl (by decide) rfl (fun ls hl => ?_)
  refine lv_iconst (v := nI 1) hx hb d_Law_move_19 (by decide +kernel) ?_
  refine W.widen (k := 1) (n := 6) (Nat.le_of_ble_eq_true rfl) (Nat.le_of_ble_eq_true rfl) ?_
  have hP9 : va_P D cl5 (wX g k L u f0 tl tp qo fo) H := hP
  have hD9 : va_D A (wX g k L u f0 tl tp qo fo) := hD
  exact W.iret (v := nI 1) hx hb hr (fun tt9 ht9 hW9 => ⟨⟨_, (), rfl, rfl, ⟨by rw [ht9]; exact hP9, hD9⟩⟩, hS.F ht9⟩) hS.2.2 d_Law_move_20
set_option maxHeartbeats 4000000 in
set_option maxRecDepth 100000 in
theorem h_move_y (l : Launch) (htr : l.stackTraces = false) (D : va_G) (g : Nat → Nat) (k : Nat → ClassId) (L : Nat) (hL0 : 96 ≤ L) (hL : L ≤ 768) (u : DSt) (f0 : Nat → Int32) (tl : Nat) (tp : Nat → Int32) (qo : Nat) (fo : Nat → Int64) (d : Nat) (y x2 y2 : Int32) (hd0 : d < 64) (hbad : y < nI 1 ∨ nI 65535 < y) : MuH l y_Law_move w_Law_move ({ frames := 9, cells := 1, slots := 6, locals := 232 }) [.ref (g 9), .int (nI d), .int (y), .int (x2), .int (y2), .ref qo] D cl5 (tyC k) (wX g k L u f0 tl tp qo fo) (wX g k L u f0 tl tp qo fo) (nI 1) := by
  intro sz
  refine xx_ofWH (cc := b_Law_move) (maxL := 7) (ret := (some .int)) (by decide) rfl ?_
  intro p9 e9 s m args9 below9 meth9 c9 s₁ B hml hv
  obtain ⟨rfl, ⟨hsz, hP, hK, hD0⟩, hX⟩ := hv
  have hx := B.exec
  have hb := B.bytes
  have hr := B.returns
  have hts := atoms_spec (ws := w_Law_move) B.pre
  have hTB : ∀ w ∈ lw_tb, w.before _ s = true := fun w h => hts w (List.mem_cons_of_mem _ h)
  have hown : s.vm.findClass R_Law = some m.cls := findClass_of_methodNamed B.named
  have hlocks := B.notSynchronized
  have htab := vx_table (x := y_Law_move) B (hts _ List.mem_cons_self)
  subst hsz
  have hD := hD0.self (sz := s.heap.size)
  generalize hAe : va_A (wX g k L u f0 tl tp qo fo) s.heap.size = A at hD ⊢
  have hA : ∀ q : Nat, s.heap.size ≤ q → A q := fun q h => by rw [← hAe]; exact Or.inr h
  have hS : va_S A s.heap s.heap [] := va_S.rf
  have hl := lv_entry ([.ref (g 9), .int (nI d), .int (y), .int (x2), .int (y2), .ref qo]) (n := 7) (Nat.le_of_ble_eq_true rfl)
  rw [lg_entry_eq]
  generalize (lg_sl ([.ref (g 9), .int (nI d), .int (y), .int (x2), .int (y2), .ref qo]) ++ List.replicate (7 - (lg_sl ([.ref (g 9), .int (nI d), .int (y), .int (x2), .int (y2), .ref qo])).length) Slot.unset).toArray = ls at hl ⊢
  have hl : lv_has ls 7 [(0, .ref (g 9)), (1, .int (nI d)), (2, .int (y)), (3, .int (x2)), (4, .int (y2)), (5, .ref qo)] := hl
  refine lv_aload hx hb d_Law_move_0 (lv_at hl 5 rfl) ?_
  refine lv_iconst (v := nI 0) hx hb d_Law_move_2 (by decide +kernel) ?_
  refine lv_aload_n hx hb d_Law_move_3 rfl (lv_at hl 0 rfl) ?_
  refine lv_iload_n hx hb d_Law_move_4 rfl (lv_at hl 1 rfl) ?_
  refine lv_iload_n hx hb d_Law_move_5 rfl (lv_at hl 2 rfl) ?_
  refine lv_iload_n hx hb d_Law_move_6 rfl (lv_at hl 3 rfl) ?_
  refine lv_iload hx hb d_Law_move_7 (lv_at hl 4 rfl) ?_
  refine gz_thVi (As := [.int (nI d), .int (y), .int (x2), .int (y2)]) (rest := [.int (nI 0), .ref qo]) (wc := (wT g k L u f0 tl tp)) ⟨hx, hb, hml, hown, hTB⟩ (c_Tree_move_y l htr D g k L hL0 hL u f0 tl tp d y x2 y2 hd0 hbad) (cwV 4 hTB (gd_V k_504 k_505 k_506 k_51 k_507) rfl rfl rfl (by decide +kernel) ⟨Nat.le_of_ble_eq_true rfl, Nat.le_of_ble_eq_true rfl⟩) hX hK hP [0, 1, 2, 3, 4, 5, 6, 7, 8, 9, 10] rfl 0 rfl rfl rfl hl.1 rfl (Nat.le_of_ble_eq_true rfl) d_Law_move_9 ⟨Nat.le_of_ble_eq_true rfl, Nat.le_of_ble_eq_true rfl⟩ hS (name := IAE) [] ⟨0, 14, 17, 13⟩ [] htab (fun z hz => nomatch hz) (by decide) (by decide) (hTB _ k_230) (by decide +kernel) (fun q9 H locs hP hS => ?_)
  refine W.widen (k := 1) (n := 6) (Nat.le_refl _) (Nat.le_refl _) ?_
  refine lv_astore (lv' := [(6, .ref q9), (0, .ref (g 9)), (1, .int (nI d)), (2, .int (y)), (3, .int (x2)), (4, .int (y2)), (5, .ref qo)]) hx hb d_Law_move_17 hl (by decide) rfl (fun ls hl => ?_)
  refine lv_iconst (v := nI 1) hx hb d_Law_move_19 (by decide +kernel) ?_
  refine W.widen (k := 1) (n := 6) (Nat.le_of_ble_eq_true rfl) (Nat.le_of_ble_eq_true rfl) ?_
  have hP9 : va_P D cl5 (wX g k L u f0 tl tp qo fo) H := hP
  have hD9 : va_D A (wX g k L u f0 tl tp qo fo) := hD
  exact W.iret (v := nI 1) hx hb hr (fun tt9 ht9 hW9 => ⟨⟨_, (), rfl, rfl, ⟨by rw [ht9]; exact hP9, hD9⟩⟩, hS.F ht9⟩) hS.2.2 d_Law_move_20
set_option maxHeartbeats 4000000 in
set_option maxRecDepth 100000 in
theorem h_move_z (l : Launch) (htr : l.stackTraces = false) (D : va_G) (g : Nat → Nat) (k : Nat → ClassId) (L : Nat) (hL0 : 96 ≤ L) (hL : L ≤ 768) (u : DSt) (f0 : Nat → Int32) (tl : Nat) (tp : Nat → Int32) (qo : Nat) (fo : Nat → Int64) (d w : Nat) (x2 y2 : Int32) (hd0 : d < 64) (hw1 : 1 ≤ w) (hw2 : w ≤ 65535) (hbad : x2 < 0 ∨ nI 64 ≤ x2) : MuH l y_Law_move w_Law_move ({ frames := 9, cells := 1, slots := 6, locals := 232 }) [.ref (g 9), .int (nI d), .int (nI w), .int (x2), .int (y2), .ref qo] D cl5 (tyC k) (wX g k L u f0 tl tp qo fo) (wX g k L u f0 tl tp qo fo) (nI 1) := by
  intro sz
  refine xx_ofWH (cc := b_Law_move) (maxL := 7) (ret := (some .int)) (by decide) rfl ?_
  intro p9 e9 s m args9 below9 meth9 c9 s₁ B hml hv
  obtain ⟨rfl, ⟨hsz, hP, hK, hD0⟩, hX⟩ := hv
  have hx := B.exec
  have hb := B.bytes
  have hr := B.returns
  have hts := atoms_spec (ws := w_Law_move) B.pre
  have hTB : ∀ w ∈ lw_tb, w.before _ s = true := fun w h => hts w (List.mem_cons_of_mem _ h)
  have hown : s.vm.findClass R_Law = some m.cls := findClass_of_methodNamed B.named
  have hlocks := B.notSynchronized
  have htab := vx_table (x := y_Law_move) B (hts _ List.mem_cons_self)
  subst hsz
  have hD := hD0.self (sz := s.heap.size)
  generalize hAe : va_A (wX g k L u f0 tl tp qo fo) s.heap.size = A at hD ⊢
  have hA : ∀ q : Nat, s.heap.size ≤ q → A q := fun q h => by rw [← hAe]; exact Or.inr h
  have hS : va_S A s.heap s.heap [] := va_S.rf
  have hl := lv_entry ([.ref (g 9), .int (nI d), .int (nI w), .int (x2), .int (y2), .ref qo]) (n := 7) (Nat.le_of_ble_eq_true rfl)
  rw [lg_entry_eq]
  generalize (lg_sl ([.ref (g 9), .int (nI d), .int (nI w), .int (x2), .int (y2), .ref qo]) ++ List.replicate (7 - (lg_sl ([.ref (g 9), .int (nI d), .int (nI w), .int (x2), .int (y2), .ref qo])).length) Slot.unset).toArray = ls at hl ⊢
  have hl : lv_has ls 7 [(0, .ref (g 9)), (1, .int (nI d)), (2, .int (nI w)), (3, .int (x2)), (4, .int (y2)), (5, .ref qo)] := hl
  refine lv_aload hx hb d_Law_move_0 (lv_at hl 5 rfl) ?_
  refine lv_iconst (v := nI 0) hx hb d_Law_move_2 (by decide +kernel) ?_
  refine lv_aload_n hx hb d_Law_move_3 rfl (lv_at hl 0 rfl) ?_
  refine lv_iload_n hx hb d_Law_move_4 rfl (lv_at hl 1 rfl) ?_
  refine lv_iload_n hx hb d_Law_move_5 rfl (lv_at hl 2 rfl) ?_
  refine lv_iload_n hx hb d_Law_move_6 rfl (lv_at hl 3 rfl) ?_
  refine lv_iload hx hb d_Law_move_7 (lv_at hl 4 rfl) ?_
  refine gz_thVi (As := [.int (nI d), .int (nI w), .int (x2), .int (y2)]) (rest := [.int (nI 0), .ref qo]) (wc := (wT g k L u f0 tl tp)) ⟨hx, hb, hml, hown, hTB⟩ (c_Tree_move_z l htr D g k L hL0 hL u f0 tl tp d w x2 y2 hd0 hw1 hw2 hbad) (cwV 4 hTB (gd_V k_504 k_505 k_506 k_51 k_507) rfl rfl rfl (by decide +kernel) ⟨Nat.le_of_ble_eq_true rfl, Nat.le_of_ble_eq_true rfl⟩) hX hK hP [0, 1, 2, 3, 4, 5, 6, 7, 8, 9, 10] rfl 0 rfl rfl rfl hl.1 rfl (Nat.le_of_ble_eq_true rfl) d_Law_move_9 ⟨Nat.le_of_ble_eq_true rfl, Nat.le_of_ble_eq_true rfl⟩ hS (name := IAE) [] ⟨0, 14, 17, 13⟩ [] htab (fun z hz => nomatch hz) (by decide) (by decide) (hTB _ k_230) (by decide +kernel) (fun q9 H locs hP hS => ?_)
  refine W.widen (k := 1) (n := 6) (Nat.le_refl _) (Nat.le_refl _) ?_
  refine lv_astore (lv' := [(6, .ref q9), (0, .ref (g 9)), (1, .int (nI d)), (2, .int (nI w)), (3, .int (x2)), (4, .int (y2)), (5, .ref qo)]) hx hb d_Law_move_17 hl (by decide) rfl (fun ls hl => ?_)
  refine lv_iconst (v := nI 1) hx hb d_Law_move_19 (by decide +kernel) ?_
  refine W.widen (k := 1) (n := 6) (Nat.le_of_ble_eq_true rfl) (Nat.le_of_ble_eq_true rfl) ?_
  have hP9 : va_P D cl5 (wX g k L u f0 tl tp qo fo) H := hP
  have hD9 : va_D A (wX g k L u f0 tl tp qo fo) := hD
  exact W.iret (v := nI 1) hx hb hr (fun tt9 ht9 hW9 => ⟨⟨_, (), rfl, rfl, ⟨by rw [ht9]; exact hP9, hD9⟩⟩, hS.F ht9⟩) hS.2.2 d_Law_move_20
set_option maxHeartbeats 4000000 in
set_option maxRecDepth 100000 in
theorem h_move_w (l : Launch) (htr : l.stackTraces = false) (D : va_G) (g : Nat → Nat) (k : Nat → ClassId) (L : Nat) (hL0 : 96 ≤ L) (hL : L ≤ 768) (u : DSt) (f0 : Nat → Int32) (tl : Nat) (tp : Nat → Int32) (qo : Nat) (fo : Nat → Int64) (d w d2 : Nat) (y2 : Int32) (hd0 : d < 64) (hw1 : 1 ≤ w) (hw2 : w ≤ 65535) (hd1 : d2 < 64) (hbad : y2 < nI 1 ∨ nI 65535 < y2) : MuH l y_Law_move w_Law_move ({ frames := 9, cells := 1, slots := 6, locals := 232 }) [.ref (g 9), .int (nI d), .int (nI w), .int (nI d2), .int (y2), .ref qo] D cl5 (tyC k) (wX g k L u f0 tl tp qo fo) (wX g k L u f0 tl tp qo fo) (nI 1) := by
  intro sz
  refine xx_ofWH (cc := b_Law_move) (maxL := 7) (ret := (some .int)) (by decide) rfl ?_
  intro p9 e9 s m args9 below9 meth9 c9 s₁ B hml hv
  obtain ⟨rfl, ⟨hsz, hP, hK, hD0⟩, hX⟩ := hv
  have hx := B.exec
  have hb := B.bytes
  have hr := B.returns
  have hts := atoms_spec (ws := w_Law_move) B.pre
  have hTB : ∀ w ∈ lw_tb, w.before _ s = true := fun w h => hts w (List.mem_cons_of_mem _ h)
  have hown : s.vm.findClass R_Law = some m.cls := findClass_of_methodNamed B.named
  have hlocks := B.notSynchronized
  have htab := vx_table (x := y_Law_move) B (hts _ List.mem_cons_self)
  subst hsz
  have hD := hD0.self (sz := s.heap.size)
  generalize hAe : va_A (wX g k L u f0 tl tp qo fo) s.heap.size = A at hD ⊢
  have hA : ∀ q : Nat, s.heap.size ≤ q → A q := fun q h => by rw [← hAe]; exact Or.inr h
  have hS : va_S A s.heap s.heap [] := va_S.rf
  have hl := lv_entry ([.ref (g 9), .int (nI d), .int (nI w), .int (nI d2), .int (y2), .ref qo]) (n := 7) (Nat.le_of_ble_eq_true rfl)
  rw [lg_entry_eq]
  generalize (lg_sl ([.ref (g 9), .int (nI d), .int (nI w), .int (nI d2), .int (y2), .ref qo]) ++ List.replicate (7 - (lg_sl ([.ref (g 9), .int (nI d), .int (nI w), .int (nI d2), .int (y2), .ref qo])).length) Slot.unset).toArray = ls at hl ⊢
  have hl : lv_has ls 7 [(0, .ref (g 9)), (1, .int (nI d)), (2, .int (nI w)), (3, .int (nI d2)), (4, .int (y2)), (5, .ref qo)] := hl
  refine lv_aload hx hb d_Law_move_0 (lv_at hl 5 rfl) ?_
  refine lv_iconst (v := nI 0) hx hb d_Law_move_2 (by decide +kernel) ?_
  refine lv_aload_n hx hb d_Law_move_3 rfl (lv_at hl 0 rfl) ?_
  refine lv_iload_n hx hb d_Law_move_4 rfl (lv_at hl 1 rfl) ?_
  refine lv_iload_n hx hb d_Law_move_5 rfl (lv_at hl 2 rfl) ?_
  refine lv_iload_n hx hb d_Law_move_6 rfl (lv_at hl 3 rfl) ?_
  refine lv_iload hx hb d_Law_move_7 (lv_at hl 4 rfl) ?_
  refine gz_thVi (As := [.int (nI d), .int (nI w), .int (nI d2), .int (y2)]) (rest := [.int (nI 0), .ref qo]) (wc := (wT g k L u f0 tl tp)) ⟨hx, hb, hml, hown, hTB⟩ (c_Tree_move_w l htr D g k L hL0 hL u f0 tl tp d w d2 y2 hd0 hw1 hw2 hd1 hbad) (cwV 4 hTB (gd_V k_504 k_505 k_506 k_51 k_507) rfl rfl rfl (by decide +kernel) ⟨Nat.le_of_ble_eq_true rfl, Nat.le_of_ble_eq_true rfl⟩) hX hK hP [0, 1, 2, 3, 4, 5, 6, 7, 8, 9, 10] rfl 0 rfl rfl rfl hl.1 rfl (Nat.le_of_ble_eq_true rfl) d_Law_move_9 ⟨Nat.le_of_ble_eq_true rfl, Nat.le_of_ble_eq_true rfl⟩ hS (name := IAE) [] ⟨0, 14, 17, 13⟩ [] htab (fun z hz => nomatch hz) (by decide) (by decide) (hTB _ k_230) (by decide +kernel) (fun q9 H locs hP hS => ?_)
  refine W.widen (k := 1) (n := 6) (Nat.le_refl _) (Nat.le_refl _) ?_
  refine lv_astore (lv' := [(6, .ref q9), (0, .ref (g 9)), (1, .int (nI d)), (2, .int (nI w)), (3, .int (nI d2)), (4, .int (y2)), (5, .ref qo)]) hx hb d_Law_move_17 hl (by decide) rfl (fun ls hl => ?_)
  refine lv_iconst (v := nI 1) hx hb d_Law_move_19 (by decide +kernel) ?_
  refine W.widen (k := 1) (n := 6) (Nat.le_of_ble_eq_true rfl) (Nat.le_of_ble_eq_true rfl) ?_
  have hP9 : va_P D cl5 (wX g k L u f0 tl tp qo fo) H := hP
  have hD9 : va_D A (wX g k L u f0 tl tp qo fo) := hD
  exact W.iret (v := nI 1) hx hb hr (fun tt9 ht9 hW9 => ⟨⟨_, (), rfl, rfl, ⟨by rw [ht9]; exact hP9, hD9⟩⟩, hS.F ht9⟩) hS.2.2 d_Law_move_20
set_option maxHeartbeats 4000000 in
set_option maxRecDepth 100000 in
theorem h_at_x (l : Launch) (htr : l.stackTraces = false) (D : va_G) (g : Nat → Nat) (k : Nat → ClassId) (L : Nat) (hL0 : 96 ≤ L) (hL : L ≤ 768) (u : DSt) (f0 : Nat → Int32) (tl : Nat) (tp : Nat → Int32) (qo : Nat) (fo : Nat → Int64) (x y : Int32) (cm : Bool) (hbad : (hsB L x && !decide (y < 0 ∨ nI 64 ≤ y)) = false) : MuH l y_Law_at w_Law_at ({ frames := 8, cells := 1, slots := 6, locals := 134 }) [.ref (g 9), .int (x), .int (y), .int (zI (cm)), .ref qo] D cl5 (tyC k) (wX g k L u f0 tl tp qo fo) (wX g k L u f0 tl tp qo fo) (nI 1) := by
  intro sz
  refine xx_ofWH (cc := b_Law_at) (maxL := 6) (ret := (some .int)) (by decide) rfl ?_
  intro p9 e9 s m args9 below9 meth9 c9 s₁ B hml hv
  obtain ⟨rfl, ⟨hsz, hP, hK, hD0⟩, hX⟩ := hv
  have hx := B.exec
  have hb := B.bytes
  have hr := B.returns
  have hts := atoms_spec (ws := w_Law_at) B.pre
  have hTB : ∀ w ∈ lw_tb, w.before _ s = true := fun w h => hts w (List.mem_cons_of_mem _ h)
  have hown : s.vm.findClass R_Law = some m.cls := findClass_of_methodNamed B.named
  have hlocks := B.notSynchronized
  have htab := vx_table (x := y_Law_at) B (hts _ List.mem_cons_self)
  subst hsz
  have hD := hD0.self (sz := s.heap.size)
  generalize hAe : va_A (wX g k L u f0 tl tp qo fo) s.heap.size = A at hD ⊢
  have hA : ∀ q : Nat, s.heap.size ≤ q → A q := fun q h => by rw [← hAe]; exact Or.inr h
  have hS : va_S A s.heap s.heap [] := va_S.rf
  have hl := lv_entry ([.ref (g 9), .int (x), .int (y), .int (zI (cm)), .ref qo]) (n := 6) (Nat.le_of_ble_eq_true rfl)
  rw [lg_entry_eq]
  generalize (lg_sl ([.ref (g 9), .int (x), .int (y), .int (zI (cm)), .ref qo]) ++ List.replicate (6 - (lg_sl ([.ref (g 9), .int (x), .int (y), .int (zI (cm)), .ref qo])).length) Slot.unset).toArray = ls at hl ⊢
  have hl : lv_has ls 6 [(0, .ref (g 9)), (1, .int (x)), (2, .int (y)), (3, .int (zI (cm))), (4, .ref qo)] := hl
  refine lv_aload hx hb d_Law_at_0 (lv_at hl 4 rfl) ?_
  refine lv_iconst (v := nI 0) hx hb d_Law_at_2 (by decide +kernel) ?_
  refine lv_aload_n hx hb d_Law_at_3 rfl (lv_at hl 0 rfl) ?_
  refine lv_iload_n hx hb d_Law_at_4 rfl (lv_at hl 1 rfl) ?_
  refine lv_iload_n hx hb d_Law_at_5 rfl (lv_at hl 2 rfl) ?_
  refine lv_iload_n hx hb d_Law_at_6 rfl (lv_at hl 3 rfl) ?_
  refine gz_thVi (As := [.int (x), .int (y), .int (zI (cm))]) (rest := [.int (nI 0), .ref qo]) (wc := (wT g k L u f0 tl tp)) ⟨hx, hb, hml, hown, hTB⟩ (c_Tree_at_x l htr D g k L hL0 hL u f0 tl tp x y cm hbad) (cwV 3 hTB (gd_V k_561 k_562 k_563 k_51 k_564) rfl rfl rfl (by decide +kernel) ⟨Nat.le_of_ble_eq_true rfl, Nat.le_of_ble_eq_true rfl⟩) hX hK hP [0, 1, 2, 3, 4, 5, 6, 7, 8, 9, 10] rfl 0 rfl rfl rfl hl.1 rfl (Nat.le_of_ble_eq_true rfl) d_Law_at_7 ⟨Nat.le_of_ble_eq_true rfl, Nat.le_of_ble_eq_true rfl⟩ hS (name := IAE) [] ⟨0, 12, 15, 13⟩ [] htab (fun z hz => nomatch hz) (by decide) (by decide) (hTB _ k_230) (by decide +kernel) (fun q9 H locs hP hS => ?_)
  refine W.widen (k := 1) (n := 6) (Nat.le_refl _) (Nat.le_refl _) ?_
  refine lv_astore (lv' := [(5, .ref q9), (0, .ref (g 9)), (1, .int (x)), (2, .int (y)), (3, .int (zI (cm))), (4, .ref qo)]) hx hb d_Law_at_15 hl (by decide) rfl (fun ls hl => ?_)
  refine lv_iconst (v := nI 1) hx hb d_Law_at_17 (by decide +kernel) ?_
  refine W.widen (k := 1) (n := 6) (Nat.le_of_ble_eq_true rfl) (Nat.le_of_ble_eq_true rfl) ?_
  have hP9 : va_P D cl5 (wX g k L u f0 tl tp qo fo) H := hP
  have hD9 : va_D A (wX g k L u f0 tl tp qo fo) := hD
  exact W.iret (v := nI 1) hx hb hr (fun tt9 ht9 hW9 => ⟨⟨_, (), rfl, rfl, ⟨by rw [ht9]; exact hP9, hD9⟩⟩, hS.F ht9⟩) hS.2.2 d_Law_at_18
set_option maxHeartbeats 4000000 in
set_option maxRecDepth 100000 in
theorem h_changed_x (l : Launch) (htr : l.stackTraces = false) (D : va_G) (g : Nat → Nat) (k : Nat → ClassId) (L : Nat) (hL0 : 96 ≤ L) (hL : L ≤ 768) (u : DSt) (f0 : Nat → Int32) (tl : Nat) (tp : Nat → Int32) (qo : Nat) (fo : Nat → Int64) (x : Int32) (hbad : dbk L (dDif u) x = -1) : MuH l y_Law_changed w_Law_changed ({ frames := 8, cells := 1, slots := 6, locals := 132 }) [.ref (g 9), .int (x), .ref qo] D cl5 (tyC k) (wX g k L u f0 tl tp qo fo) (wX g k L u f0 tl tp qo fo) (nI 1) := by
  intro sz
  refine xx_ofWH (cc := b_Law_changed) (maxL := 4) (ret := (some .int)) (by decide) rfl ?_
  intro p9 e9 s m args9 below9 meth9 c9 s₁ B hml hv
  obtain ⟨rfl, ⟨hsz, hP, hK, hD0⟩, hX⟩ := hv
  have hx := B.exec
  have hb := B.bytes
  have hr := B.returns
  have hts := atoms_spec (ws := w_Law_changed) B.pre
  have hTB : ∀ w ∈ lw_tb, w.before _ s = true := fun w h => hts w (List.mem_cons_of_mem _ h)
  have hown : s.vm.findClass R_Law = some m.cls := findClass_of_methodNamed B.named
  have hlocks := B.notSynchronized
  have htab := vx_table (x := y_Law_changed) B (hts _ List.mem_cons_self)
  subst hsz
  have hD := hD0.self (sz := s.heap.size)
  generalize hAe : va_A (wX g k L u f0 tl tp qo fo) s.heap.size = A at hD ⊢
  have hA : ∀ q : Nat, s.heap.size ≤ q → A q := fun q h => by rw [← hAe]; exact Or.inr h
  have hS : va_S A s.heap s.heap [] := va_S.rf
  have hl := lv_entry ([.ref (g 9), .int (x), .ref qo]) (n := 4) (Nat.le_of_ble_eq_true rfl)
  rw [lg_entry_eq]
  generalize (lg_sl ([.ref (g 9), .int (x), .ref qo]) ++ List.replicate (4 - (lg_sl ([.ref (g 9), .int (x), .ref qo])).length) Slot.unset).toArray = ls at hl ⊢
  have hl : lv_has ls 4 [(0, .ref (g 9)), (1, .int (x)), (2, .ref qo)] := hl
  refine lv_aload_n hx hb d_Law_changed_0 rfl (lv_at hl 2 rfl) ?_
  refine lv_iconst (v := nI 0) hx hb d_Law_changed_1 (by decide +kernel) ?_
  refine lv_aload_n hx hb d_Law_changed_2 rfl (lv_at hl 0 rfl) ?_
  refine lv_iload_n hx hb d_Law_changed_3 rfl (lv_at hl 1 rfl) ?_
  refine gz_thVi (As := [.int (x)]) (rest := [.int (nI 0), .ref qo]) (wc := (wT g k L u f0 tl tp)) ⟨hx, hb, hml, hown, hTB⟩ (c_Tree_changed_x l htr D g k L hL0 hL u f0 tl tp x hbad) (cwV 1 hTB (gd_V k_577 k_578 k_579 k_51 k_580) rfl rfl rfl (by decide +kernel) ⟨Nat.le_of_ble_eq_true rfl, Nat.le_of_ble_eq_true rfl⟩) hX hK hP [0, 1, 2, 3, 4, 5, 6, 7, 8, 9, 10] rfl 0 rfl rfl rfl hl.1 rfl (Nat.le_of_ble_eq_true rfl) d_Law_changed_4 ⟨Nat.le_of_ble_eq_true rfl, Nat.le_of_ble_eq_true rfl⟩ hS (name := NSE) [] ⟨0, 9, 12, 35⟩ [] htab (fun z hz => nomatch hz) (by decide) (by decide) (hTB _ k_479) (by decide +kernel) (fun q9 H locs hP hS => ?_)
  refine W.widen (k := 1) (n := 6) (Nat.le_refl _) (Nat.le_refl _) ?_
  refine lv_astore_n (lv' := [(3, .ref q9), (0, .ref (g 9)), (1, .int (x)), (2, .ref qo)]) hx hb d_Law_changed_12 rfl hl (by decide) rfl (fun ls hl => ?_)
  refine lv_iconst (v := nI 1) hx hb d_Law_changed_13 (by decide +kernel) ?_
  refine W.widen (k := 1) (n := 6) (Nat.le_of_ble_eq_true rfl) (Nat.le_of_ble_eq_true rfl) ?_
  have hP9 : va_P D cl5 (wX g k L u f0 tl tp qo fo) H := hP
  have hD9 : va_D A (wX g k L u f0 tl tp qo fo) := hD
  exact W.iret (v := nI 1) hx hb hr (fun tt9 ht9 hW9 => ⟨⟨_, (), rfl, rfl, ⟨by rw [ht9]; exact hP9, hD9⟩⟩, hS.F ht9⟩) hS.2.2 d_Law_changed_14
set_option maxHeartbeats 4000000 in
set_option maxRecDepth 100000 in
theorem h_look_x (l : Launch) (htr : l.stackTraces = false) (D : va_G) (g : Nat → Nat) (k : Nat → ClassId) (L : Nat) (hL0 : 96 ≤ L) (hL : L ≤ 768) (u : DSt) (f0 : Nat → Int32) (tl : Nat) (tp : Nat → Int32) (qo : Nat) (fo : Nat → Int64) (x : Int32) (hbad : x < 0 ∨ nI 6 < x) : MuH l y_Law_look w_Law_look ({ frames := 8, cells := 1, slots := 6, locals := 131 }) [.ref (g 9), .int (x), .ref qo] D cl5 (tyC k) (wX g k L u f0 tl tp qo fo) (wX g k L u f0 tl tp qo fo) (nI 1) := by
  intro sz
  refine xx_ofWH (cc := b_Law_look) (maxL := 4) (ret := (some .int)) (by decide) rfl ?_
  intro p9 e9 s m args9 below9 meth9 c9 s₁ B hml hv
  obtain ⟨rfl, ⟨hsz, hP, hK, hD0⟩, hX⟩ := hv
  have hx := B.exec
  have hb := B.bytes
  have hr := B.returns
  have hts := atoms_spec (ws := w_Law_look) B.pre
  have hTB : ∀ w ∈ lw_tb, w.before _ s = true := fun w h => hts w (List.mem_cons_of_mem _ h)
  have hown : s.vm.findClass R_Law = some m.cls := findClass_of_methodNamed B.named
  have hlocks := B.notSynchronized
  have htab := vx_table (x := y_Law_look) B (hts _ List.mem_cons_self)
  subst hsz
  have hD := hD0.self (sz := s.heap.size)
  generalize hAe : va_A (wX g k L u f0 tl tp qo fo) s.heap.size = A at hD ⊢
  have hA : ∀ q : Nat, s.heap.size ≤ q → A q := fun q h => by rw [← hAe]; exact Or.inr h
  have hS : va_S A s.heap s.heap [] := va_S.rf
  have hl := lv_entry ([.ref (g 9), .int (x), .ref qo]) (n := 4) (Nat.le_of_ble_eq_true rfl)
  rw [lg_entry_eq]
  generalize (lg_sl ([.ref (g 9), .int (x), .ref qo]) ++ List.replicate (4 - (lg_sl ([.ref (g 9), .int (x), .ref qo])).length) Slot.unset).toArray = ls at hl ⊢
  have hl : lv_has ls 4 [(0, .ref (g 9)), (1, .int (x)), (2, .ref qo)] := hl
  refine lv_aload_n hx hb d_Law_look_0 rfl (lv_at hl 2 rfl) ?_
  refine lv_iconst (v := nI 0) hx hb d_Law_look_1 (by decide +kernel) ?_
  refine lv_aload_n hx hb d_Law_look_2 rfl (lv_at hl 0 rfl) ?_
  refine lv_iload_n hx hb d_Law_look_3 rfl (lv_at hl 1 rfl) ?_
  refine gz_thVi (As := [.int (x)]) (rest := [.int (nI 0), .ref qo]) (wc := (wT g k L u f0 tl tp)) ⟨hx, hb, hml, hown, hTB⟩ (c_Tree_look_x l htr D g k L hL0 hL u f0 tl tp x hbad) (cwV 1 hTB (gd_V k_589 k_590 k_591 k_51 k_592) rfl rfl rfl (by decide +kernel) ⟨Nat.le_of_ble_eq_true rfl, Nat.le_of_ble_eq_true rfl⟩) hX hK hP [0, 1, 2, 3, 4, 5, 6, 7, 8, 9, 10] rfl 0 rfl rfl rfl hl.1 rfl (Nat.le_of_ble_eq_true rfl) d_Law_look_4 ⟨Nat.le_of_ble_eq_true rfl, Nat.le_of_ble_eq_true rfl⟩ hS (name := NSE) [] ⟨0, 9, 12, 35⟩ [] htab (fun z hz => nomatch hz) (by decide) (by decide) (hTB _ k_479) (by decide +kernel) (fun q9 H locs hP hS => ?_)
  refine W.widen (k := 1) (n := 6) (Nat.le_refl _) (Nat.le_refl _) ?_
  refine lv_astore_n (lv' := [(3, .ref q9), (0, .ref (g 9)), (1, .int (x)), (2, .ref qo)]) hx hb d_Law_look_12 rfl hl (by decide) rfl (fun ls hl => ?_)
  refine lv_iconst (v := nI 1) hx hb d_Law_look_13 (by decide +kernel) ?_
  refine W.widen (k := 1) (n := 6) (Nat.le_of_ble_eq_true rfl) (Nat.le_of_ble_eq_true rfl) ?_
  have hP9 : va_P D cl5 (wX g k L u f0 tl tp qo fo) H := hP
  have hD9 : va_D A (wX g k L u f0 tl tp qo fo) := hD
  exact W.iret (v := nI 1) hx hb hr (fun tt9 ht9 hW9 => ⟨⟨_, (), rfl, rfl, ⟨by rw [ht9]; exact hP9, hD9⟩⟩, hS.F ht9⟩) hS.2.2 d_Law_look_14
